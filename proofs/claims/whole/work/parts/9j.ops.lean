/-! an example put in, pure -/
def insE (ex : TE) (p w : Nat) (b : Int) : TE := (ex.1 + 1, insN ex.2.1 p w, fun i => if i < p then ex.2.2 i else if i = p then b else ex.2.2 (i - 1))
theorem IsPl_c {e e' : Nat → Int} {c : Nat} {w : Int} {p : Nat} (h : IsPl e c w p) (he : ∀ i, i < c → e' i = e i) : IsPl e' c w p := by
  obtain ⟨a1, a2, a3⟩ := h
  exact ⟨a1, fun i hi => by rw [he i (by omega)]; exact a2 i hi, fun hp => by rw [he p hp]; exact a3 hp⟩
theorem IsPl_h {f : Nat → Nat} {c w p i : Nat} (hs : Srt f c) (h : IsPl (fun i => (f i : Int)) c w p) (hi : i < c) (e : f i = w) : p < c ∧ f p = w := by
  have := pl_u hs hi e h
  subst this
  exact ⟨hi, e⟩
theorem insE_x {ex : TE} {p w : Nat} {b : Int} (hp : p ≤ ex.1) {w' : Nat} : (∃ v, Exx (insE ex p w b) w' v) ↔ (∃ v, Exx ex w' v) ∨ w' = w := by
  constructor
  · rintro ⟨v, i, h1, _, h3, h4⟩
    have h1 : i < ex.1 + 1 := h1
    have h3 : insN ex.2.1 p w i = w' := h3
    unfold insN at h3
    by_cases z : i < p
    · rw [if_pos z] at h3
      exact Or.inl ⟨ex.2.2 i, i, by omega, by omega, h3, rfl⟩
    · rw [if_neg z] at h3
      by_cases z2 : i = p
      · rw [if_pos z2] at h3
        exact Or.inr h3.symm
      · rw [if_neg z2] at h3
        exact Or.inl ⟨ex.2.2 (i - 1), i - 1, by omega, by omega, h3, rfl⟩
  · rintro (⟨v, i, h1, _, h3, h4⟩ | rfl)
    · by_cases z : i < p
      · exact ⟨_, i, by show i < ex.1 + 1; omega, by omega, by show insN ex.2.1 p w i = w'; unfold insN; rw [if_pos z]; exact h3, rfl⟩
      · exact ⟨_, i + 1, by show i + 1 < ex.1 + 1; omega, by omega, by show insN ex.2.1 p w (i + 1) = w'; unfold insN; rw [if_neg (by omega), if_neg (by omega)]; exact h3, rfl⟩
    · exact ⟨_, p, by show p < ex.1 + 1; omega, by omega, by show insN ex.2.1 p w' p = w'; unfold insN; rw [if_neg (by omega), if_pos rfl], rfl⟩
theorem insE_P {ex : TE} {p w : Nat} {b : Int} (hp : p ≤ ex.1) (x : Nat) : Pf (fun w' => ∃ v, Exx (insE ex p w b) w' v) x ↔ Pf (fun w' => ∃ v, Exx ex w' v) x ∨ Pn w x := by
  constructor
  · rintro (h | ⟨w', h1, h2⟩)
    · exact Or.inl (Or.inl h)
    · rcases (insE_x hp).mp h1 with h | rfl
      · exact Or.inl (Or.inr ⟨w', h, h2⟩)
      · exact Or.inr h2
  · rintro ((h | ⟨w', h1, h2⟩) | h)
    · exact Or.inl h
    · exact Or.inr ⟨w', (insE_x hp).mpr (Or.inl h1), h2⟩
    · exact Or.inr ⟨w, (insE_x hp).mpr (Or.inr rfl), h⟩
theorem PX_ins {a : Nat} {ex : TE} {tn : TN} {p w : Nat} {b : Int} (ha : 1 ≤ a ∧ a ≤ 4) (h : ex.1 ≤ 40 ∧ (∀ i, i < ex.1 → ok01 (ex.2.2 i)) ∧ Srt ex.2.1 ex.1) (hT : TNo a ex tn) (hc : ex.1 < 40) (hw : okw a w) (hb : ok01 b) (hp : IsPl (fun i => (ex.2.1 i : Int)) ex.1 w p) (hn : ∀ i, i < ex.1 → ex.2.1 i ≠ w) (hl : tn.1 + lk tn.2 tn.1 w (wl w) ≤ 120) : PX a (insE ex p w b) := by
  obtain ⟨p1, p2, p3⟩ := hp
  refine ⟨ha, ⟨by show ex.1 + 1 ≤ 40; omega, fun i hi => ?_, Srt_ins h.2.2 p1 (fun i hi => ?_) (fun i h1 h2 => ?_)⟩, fun i hi => ?_, ?_⟩
  · have hi : i < ex.1 + 1 := hi
    show ok01 (if i < p then ex.2.2 i else if i = p then b else ex.2.2 (i - 1))
    split
    · exact h.2.1 i (by omega)
    · split
      · exact hb
      · exact h.2.1 (i - 1) (by omega)
  · have := p2 i hi
    have this : (ex.2.1 i : Int) < w := this
    omega
  · have h3 : (w : Int) ≤ ex.2.1 p := p3 (by omega)
    have h4 := Srt_le h.2.2 h1 h2
    have h5 := hn i h2
    omega
  · have hi : i < ex.1 + 1 := hi
    show okw a (insN ex.2.1 p w i)
    unfold insN
    split
    · exact hT.2.2.2 i (by omega)
    · split
      · exact hw
      · exact hT.2.2.2 (i - 1) (by omega)
  · refine Cp_le (Cp_sub (Cp_lk (w := w) hT.2.1.1 (wl w)) (fun x hx => ?_)) hl
    rcases (insE_P p1 x).mp hx with hx | hx
    · exact Or.inl ((hT.2.2.1 x).mpr hx)
    · exact Or.inr hx
/-- what comes of it -/
def AE (a : Nat) (ex : TE) (tn : TN) (D : List Dd) (F : FS) (w : Nat) (b r : Int) (ex' : TE) (tn' : TN) (D' : List Dd) (F' : FS) : Prop :=
  ((∃ p, p < ex.1 ∧ ex.2.1 p = w ∧ r = (if ex.2.2 p = b then (tn.1 : Int) else -3)) ∧ ex' = ex ∧ tn' = tn ∧ D' = D ∧ F' = F)
  ∨ ((∀ i, i < ex.1 → ex.2.1 i ≠ w) ∧ ex.1 = 40 ∧ r = -4 ∧ ex' = ex ∧ tn' = tn ∧ D' = D ∧ F' = F)
  ∨ ((∀ i, i < ex.1 → ex.2.1 i ≠ w) ∧ ex.1 < 40 ∧ 120 < tn.1 + lk tn.2 tn.1 w (wl w) ∧ r = -5 ∧ ex' = ex ∧ tn' = tn ∧ D' = D ∧ F' = F)
  ∨ ((∀ i, i < ex.1 → ex.2.1 i ≠ w) ∧ ex.1 < 40 ∧ tn.1 + lk tn.2 tn.1 w (wl w) ≤ 120 ∧ (∃ p, IsPl (fun i => (ex.2.1 i : Int)) ex.1 w p ∧ ex' = insE ex p w b) ∧ PX a ex' ∧ TNo a ex' tn' ∧ D' = [] ∧ F' = cF0 ex' tn' ∧ r = (tn'.1 : Nat))
theorem AE_P {tp : Nat × (Nat → Int)} {a : Nat} {ex ex' : TE} {tn tn' : TN} {D D' : List Dd} {F F' : FS} {M1 M2 M3 : MC} {L : List Nat} {t w : Nat} {b r : Int} (p : Pur tp a ex tn D F M1 M2 M3 L t) (h : AE a ex tn D F w b r ex' tn' D' F') : Pur tp a ex' tn' D' F' M1 M2 M3 L t := by
  rcases h with ⟨_, rfl, rfl, rfl, rfl⟩ | ⟨_, _, _, rfl, rfl, rfl, rfl⟩ | ⟨_, _, _, _, rfl, rfl, rfl, rfl⟩ | ⟨_, _, _, _, h1, h2, rfl, rfl, _⟩
  · exact p
  · exact p
  · exact p
  · exact Pur_X p h1 h2
