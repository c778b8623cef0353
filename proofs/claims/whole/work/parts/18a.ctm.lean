/-! constructors: the two that the law calls -/
def SC : CTt := (99, [87, 98, 97, 96, 95, 94, 93, 92, 91, 88, 90, 89, 80, 86, 85, 84, 83, 82, 81, 75, 79, 76, 78, 77, 66, 74, 73, 72, 71, 70, 69, 68, 67, 63, 65, 64, 60, 62, 61, 57, 59, 58, 54, 56, 55, 36, 53, 52, 51, 50, 49, 48, 47, 37, 46, 45, 44, 43, 42, 41, 40, 39, 38, 31, 35, 34, 33, 32, 13, 30, 29, 28, 27, 26, 25, 24, 14, 23, 22, 21, 20, 19, 18, 17, 16, 15, 8, 12, 11, 10, 9, 5, 7, 6, 3, 4, 1, 2], [(0, 16, -1), (0, 15, 2)])
def SMm : CTt := (146, [145, 144, 143, 142, 141, 140, 139, 138, 137, 136, 135, 134, 133, 132, 131, 130, 129, 128, 127, 126, 125, 124, 123, 122, 121, 120, 119, 118, 117, 116, 115, 114, 113, 112, 111, 110, 109, 108, 107, 106, 105, 104, 103, 102, 101, 100, 87, 98, 97, 96, 95, 94, 93, 92, 91, 88, 90, 89, 80, 86, 85, 84, 83, 82, 81, 75, 79, 76, 78, 77, 66, 74, 73, 72, 71, 70, 69, 68, 67, 63, 65, 64, 60, 62, 61, 57, 59, 58, 54, 56, 55, 36, 53, 52, 51, 50, 49, 48, 47, 37, 46, 45, 44, 43, 42, 41, 40, 39, 38, 31, 35, 34, 33, 32, 13, 30, 29, 28, 27, 26, 25, 24, 14, 23, 22, 21, 20, 19, 18, 17, 16, 15, 8, 12, 11, 10, 9, 5, 7, 6, 3, 4, 1, 2], [(99, 42, -1), (99, 2, 2)])
theorem runC : cRun 99 (cCall 99 9) (iB 10) [some (.inr 0)] [] (1, [], []) = some SC := by decide +kernel
theorem runM : cRun 146 (cCall 146 9) (iB 11) [some (.inr 99)] [] (100, SC.2.1, []) = some SMm := by decide +kernel
def alT (n : Nat) (X : List Nat) : Bool := (List.range n).all (fun k => (List.range (nf (kl k))).all (fun j => decide (fk (kl k) j = 0) || X.contains (k + fk (kl k) j)))
theorem alC : alT 99 SC.2.1 = true := by decide +kernel
theorem alM : alT 146 SMm.2.1 = true := by decide +kernel
theorem alT_q {n : Nat} {X : List Nat} (h : alT n X = true) : ∀ k, k < n → ∀ j, j < nf (kl k) → fk (kl k) j ≠ 0 → (k + fk (kl k) j) ∈ X := by
  intro k hk j hj hf
  have h1 := List.all_eq_true.mp (List.all_eq_true.mp h k (List.mem_range.mpr hk)) j (List.mem_range.mpr hj)
  rw [Bool.or_eq_true, decide_eq_true_eq] at h1
  exact List.contains_iff_mem.mp (h1.resolve_left hf)
theorem okS_stw {z : St} (hz : okS z) : ∀ {w : List (Nat × Nat × Int)}, (∀ q ∈ w, InR q.2.2) → okS (stw z w)
  | [], _ => hz
  | (o, i, v) :: r, h => okS_up2 (okS_stw hz (fun q hq => h q (List.mem_cons_of_mem _ hq))) (h _ List.mem_cons_self)
theorem asOK_q {k : Nat} {as : List V} (h : asOK k as = true) : k < 10 ∧ as.length = lI k ∧ (∀ v ∈ as, ∃ x, v = some x) ∧ ∃ o as', as = some (.inr o) :: as' := by
  unfold asOK at h
  simp only [Bool.and_eq_true, decide_eq_true_eq] at h
  obtain ⟨⟨⟨h1, h2⟩, h3⟩, h4⟩ := h
  refine ⟨h1, h2, fun v hv => ?_, ?_⟩
  · have := List.all_eq_true.mp h3 v hv
    cases v with
    | none => cases this
    | some x => exact ⟨x, rfl⟩
  · split at h4
    · exact ⟨_, _, rfl⟩
    · cases h4
section CTM
variable {l : Launch} {nO : Nat} {ad : Nat → Nat} {cA : Nat → ClassId} {D : va_G} {b0 n0 : Nat} {z : St}
theorem met_ctr (hj : inj nO ad) (hn : nO ≤ 146) (had : ∀ k, n0 ≤ k → k < nO → ad k = b0 + k) (hz : ∀ k, n0 ≤ k → ∀ j, z k j = 0) : ∀ (d k : Nat) (as : List V) (S S' : CTt), cCall nO d k as S = some S' → n0 ≤ S.1 → S.1 ≤ nO → k < 12 ∧ as.length = lI k ∧ (∃ o as', as = some (.inr o) :: as') ∧ Met l (yI k) (wI k) (rmI d S S') (PcI ad cA D b0 z as S) (QcI nO ad cA D b0 z S') (S'.1 - S.1) (SL S'.1 - SL S.1) (A0 nO ad)
  | 0, _, _, _, _, h, _, _ => by cases h
  | d + 1, k, as, S, S', h, h0, h1 => by
    unfold cCall at h
    split at h
    · rename_i hok
      obtain ⟨a1, a2, a3, a4⟩ := asOK_q hok
      refine ⟨by omega, a2, a4, ?_⟩
      obtain ⟨m1, m2, m3, m4, m5, m6, m7⟩ := okIt_q (show k < 12 by omega)
      have hcn := cN_ok (kI k) (by omega)
      refine Met.ofW (cc := cI k) (maxL := lI k) (ret := none) (by rw [m3]; exact hcn.2.2) rfl ?_
      intro p e s m args below meth c s₁ B hml hv
      obtain ⟨rfl, hsz, hP, hWd, hNS⟩ := hv
      have hx := B.exec
      have hb := B.bytes
      have hr := B.returns
      have hts : ∀ w ∈ wI k, w.before (as.map (ev ad)).toArray s = true := atoms_spec (ws := wI k) B.pre
      have hown : s.vm.findClass (yI k).cls = some m.cls := findClass_of_methodNamed B.named
      rw [m3] at hown
      have hin : meth.name = "<init>" := by
        have := (name_of_methodNamed B.named B.method).1
        rw [m5] at this
        exact this
      have hlocks := B.notSynchronized
      have X : Ci p (rmI (d + 1) S S') s m (as.map (ev ad)).toArray meth c (cI k) (lI k) (kI k) nO ad cA D b0 n0 S.1 z := ⟨hx, hb, hml, hown, fun w hw => hts w (List.mem_cons_of_mem _ hw), ⟨hWd, hNS⟩, hj, fun _ => hin, ⟨by show 1 ≤ d + 1; omega, by show 38 ≤ 38 * (d + 1); omega⟩, hn, had, fun _ => h0, hz⟩
      have hC : CSi l (rmI (d + 1) S S') nO ad cA D b0 n0 z d (cCall nO d) := ⟨Nat.le_refl _, by show 38 + 38 * d ≤ 38 * (d + 1); omega, fun k as S1 S2 hh g1 g2 => met_ctr hj hn had hz d k as S1 S2 hh g1 g2⟩
      have hl := lv_entry (as.map (ev ad)) (n := lI k) (by rw [lg_sl_len]; omega)
      rw [lg_entry_eq]
      generalize (lg_sl (as.map (ev ad)) ++ List.replicate (lI k - (lg_sl (as.map (ev ad))).length) Slot.unset).toArray = lsM at hl ⊢
      have hl : lv_has lsM (lI k) (lvl ad (as ++ List.replicate 0 none)) := lvl_entry ad a3 hl (fun i x hi => by have := lv_args_mem ad as i 0 x hi; rw [Nat.zero_add] at this; exact this)
      rw [List.replicate_zero, List.append_nil] at hl
      have hk : Wc p l e (rmI (d + 1) S S') s m (as.map (ev ad)).toArray below meth c (MQ below (QcI nO ad cA D b0 z S') (as.map (ev ad)).toArray s (S'.1 - S.1) (SL S'.1 - SL S.1) (A0 nO ad)) (lI k) nO ad cA D b0 S.1 z (iE k) as [] S' := by
        intro H locs lsM q1 q2 q3 hP' hS' hl'
        exact W.vret hx hb hr (fun t ht _ => ⟨⟨rfl, by rw [ht]; exact q1, by rw [ht]; exact hP'⟩, hS'.F ht⟩) (fun q hq => hS'.2.2 q hq) (dres k a1)
      have := ci_body m4 X hC (cCall_gr d) (pe := iE k) ⟨Nat.le_refl _, Nat.le_refl _⟩ hk (iB k) 0 [] S h1 (ckcs k (by omega)) h s.heap [] lsM hsz (Nat.le_refl _) h1 hP va_S.rf hl
      rw [Nat.sub_self, Nat.sub_self] at this
      exact this
    · cases h
theorem met_top {k o : Nat} {S0 SE : CTt} {tb : Nat → List Ai} {Q : Rn} (hck : CKs) (hcl : Cl nO) (hj : inj nO ad) (hn : nO ≤ 146) (had : ∀ k, n0 ≤ k → k < nO → ad k = b0 + k) (hz : ∀ k, n0 ≤ k → ∀ j, z k j = 0) (hzs : okS z) (hk12 : k < 12) (hl1 : lI k = 1) (hB : ∀ b, ck (cI k) (kI k) (lI k) none (fun _ => iE k) (iE k) (tb b) = true ∨ tb b = []) (hrun : cRun nO (cCall nO 9) (iB k) [some (.inr o)] [] S0 = some SE) (hall : alT nO SE.2.1 = true) (hSE : SE.1 = nO) (hw : ∀ q ∈ SE.2.2, InR q.2.2) (ho : o < nO) (h0 : n0 ≤ S0.1) (h1 : S0.1 ≤ nO)
    (hQ : AW tb Q (MS 9) 0 (fun _ => 0) 0 [some (.inr o)] [] (stw z SE.2.2)) : Met l (yI k) (wI k) (rmI 10 S0 SE) (PcI ad cA D b0 z [some (.inr o)] S0) (QcC nO ad cA D Q) (SE.1 - S0.1) (SL SE.1 - SL S0.1) (A0 nO ad) := by
  obtain ⟨m1, m2, m3, m4, m5, m6, m7⟩ := okIt_q hk12
  have hcn := cN_ok (kI k) (by omega)
  refine Met.ofW (cc := cI k) (maxL := lI k) (ret := none) (by rw [m3]; exact hcn.2.2) rfl ?_
  intro p e s m args below meth c s₁ B hml hv
  obtain ⟨rfl, hsz, hP, hWd, hNS⟩ := hv
  have hx := B.exec
  have hb := B.bytes
  have hr := B.returns
  have hts : ∀ w ∈ wI k, w.before ([some (.inr o)].map (ev ad)).toArray s = true := atoms_spec (ws := wI k) B.pre
  have hown : s.vm.findClass (yI k).cls = some m.cls := findClass_of_methodNamed B.named
  rw [m3] at hown
  have hin : meth.name = "<init>" := by
    have := (name_of_methodNamed B.named B.method).1
    rw [m5] at this
    exact this
  have hlocks := B.notSynchronized
  have X : Ci p (rmI 10 S0 SE) s m ([some (.inr o)].map (ev ad)).toArray meth c (cI k) (lI k) (kI k) nO ad cA D b0 n0 S0.1 z := ⟨hx, hb, hml, hown, fun w hw => hts w (List.mem_cons_of_mem _ hw), ⟨hWd, hNS⟩, hj, fun _ => hin, ⟨by show 1 ≤ 10; omega, by show 38 ≤ 38 * 10; omega⟩, hn, had, fun _ => h0, hz⟩
  have hC : CSi l (rmI 10 S0 SE) nO ad cA D b0 n0 z 9 (cCall nO 9) := ⟨Nat.le_refl _, by show 38 + 38 * 9 ≤ 38 * 10; omega, fun k as S1 S2 hh g1 g2 => met_ctr hj hn had hz 9 k as S1 S2 hh g1 g2⟩
  have hl := lv_entry ([some (.inr o)].map (ev ad)) (n := lI k) (by rw [lg_sl_len]; show 1 ≤ lI k; omega)
  rw [lg_entry_eq]
  generalize (lg_sl ([some (.inr o)].map (ev ad)) ++ List.replicate (lI k - (lg_sl ([some (.inr o)].map (ev ad))).length) Slot.unset).toArray = lsM at hl ⊢
  have hl : lv_has lsM (lI k) (lvl ad ([some (.inr o)] ++ List.replicate 0 none)) := lvl_entry ad (fun v hv => by rw [List.mem_singleton.mp hv]; exact ⟨_, rfl⟩) hl (fun i x hi => by have := lv_args_mem ad [some (.inr o)] i 0 x hi; rw [Nat.zero_add] at this; exact this)
  rw [List.replicate_zero, List.append_nil] at hl
  have hk : Wc p l e (rmI 10 S0 SE) s m ([some (.inr o)].map (ev ad)).toArray below meth c (MQ below (QcC nO ad cA D Q) ([some (.inr o)].map (ev ad)).toArray s (SE.1 - S0.1) (SL SE.1 - SL S0.1) (A0 nO ad)) (lI k) nO ad cA D b0 S0.1 z (iE k) [some (.inr o)] [] SE := by
    intro H locs lsM q1 q2 q3 hP' hS' hl'
    rw [hSE, wsU_all ad cA (alT_q hall)] at hP'
    have X' : Cx p (rmI 10 S0 SE) s m ([some (.inr o)].map (ev ad)).toArray c (SE.1 - S0.1) (SL SE.1 - SL S0.1) (cI k) (lI k) (kI k) nO ad cA D := ⟨hx, hb, hml, hown, fun w hw => hts w (List.mem_cons_of_mem _ hw), hWd, hj, hcl, by show 1 ≤ 10; omega, by show 38 ≤ 38 * 10; omega, Nat.le_refl _, Nat.le_refl _⟩
    have hC' : CS l (rmI 10 S0 SE) nO ad cA D (rmd 9) (MS 9) := ⟨rfl, rfl, Nat.le_refl _, by show 38 + 38 * 9 ≤ 38 * 10; omega, fun k as st Q hk h o1 o2 => met_MS hck hj hcl 9 k as st Q hk h o1 o2⟩
    have hR : RT p l e (rmI 10 S0 SE) s m ([some (.inr o)].map (ev ad)).toArray below meth c (SE.1 - S0.1) (SL SE.1 - SL S0.1) (MQ below (QcC nO ad cA D Q) ([some (.inr o)].map (ev ad)).toArray s (SE.1 - S0.1) (SL SE.1 - SL S0.1) (A0 nO ad)) (cI k) nO ad cA D none Q := by
      intro v st' ins pc H locs lsM hQ ov ost' hP' hS' hd hrt
      have hq : ∀ t : State, t.heap = H → QcC nO ad cA D Q ([some (.inr o)].map (ev ad)).toArray s (.returned (evr ad v)) t := fun t ht => ⟨⟨v, st', rfl, ov, ost', hQ, by rw [ht]; exact hP'⟩, hS'.F ht⟩
      rcases hrt with ⟨_, h1, _⟩ | ⟨_, h1, _⟩ | ⟨_, ⟨n, h1⟩, _⟩ | ⟨rfl, h1, rfl⟩
      · cases h1
      · cases h1
      · cases h1
      · exact W.vret hx hb hr (fun t ht _ => hq t ht) (fun q hq => hS'.2.2 q hq) hd
    exact aw_sound (B := tb) (q := fun _ => iE k) (b := 0) X' hC' (MS_mono 9) (Or.inl rfl) hR hB hQ (fun v hv => by rw [List.mem_singleton.mp hv]; exact Or.inl ho) (fun v hv => by cases hv) (okS_stw hzs hw) H locs lsM hP' hS' hl'
  have := ci_body m4 X hC (cCall_gr 9) (pe := iE k) ⟨Nat.le_refl _, Nat.le_refl _⟩ hk (iB k) 0 [] S0 h1 (ckcs k hk12) hrun s.heap [] lsM hsz (Nat.le_refl _) h1 hP va_S.rf hl
  rw [Nat.sub_self, Nat.sub_self] at this
  exact this
end CTM
