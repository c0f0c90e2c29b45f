section
/-! the reference: keys and names -/
def kG0 : List Int64 := [5070782, 226799777, 277560228, 11318, 14431, 267347, 16083]
def kG1 : List Int64 := [5649913681, 8538566, 158537, 108155, 7672808363, 116174, 249, 406825]
def kG2 : List Int64 := [247552, 6460043375, 985142, 582248, 456392, 7672732672, 3094387]
def kG3 : List Int64 := [4027, 399641, 107681, 2682960935045, 458690, 123, 257, 1111, 423, 10631, 12155]
theorem key_sub : ∀ v ∈ key27, v ∈ kG0 ++ (kG1 ++ (kG2 ++ kG3)) := by decide +kernel
theorem key_sup : (∀ v ∈ kG0, v ∈ key27) ∧ (∀ v ∈ kG1, v ∈ key27) ∧ (∀ v ∈ kG2, v ∈ key27) ∧ (∀ v ∈ kG3, v ∈ key27) := by decide +kernel
theorem kN0 {v : Int64} (z0 : ¬ lg_cmp v 5070782 = 0) (z1 : ¬ lg_cmp v 226799777 = 0) (z2 : ¬ lg_cmp v 277560228 = 0) (z3 : ¬ lg_cmp v 11318 = 0) (z4 : ¬ lg_cmp v 14431 = 0) (z5 : ¬ lg_cmp v 267347 = 0) (z6 : ¬ lg_cmp v 16083 = 0) : v ∉ kG0 := by
  intro h
  simp only [kG0, List.mem_cons, List.not_mem_nil, or_false] at h
  rcases h with e | e | e | e | e | e | e
  · exact z0 (lgz.mpr e)
  · exact z1 (lgz.mpr e)
  · exact z2 (lgz.mpr e)
  · exact z3 (lgz.mpr e)
  · exact z4 (lgz.mpr e)
  · exact z5 (lgz.mpr e)
  · exact z6 (lgz.mpr e)
theorem kN1 {v : Int64} (z0 : ¬ lg_cmp v 5649913681 = 0) (z1 : ¬ lg_cmp v 8538566 = 0) (z2 : ¬ lg_cmp v 158537 = 0) (z3 : ¬ lg_cmp v 108155 = 0) (z4 : ¬ lg_cmp v 7672808363 = 0) (z5 : ¬ lg_cmp v 116174 = 0) (z6 : ¬ lg_cmp v 249 = 0) (z7 : ¬ lg_cmp v 406825 = 0) : v ∉ kG1 := by
  intro h
  simp only [kG1, List.mem_cons, List.not_mem_nil, or_false] at h
  rcases h with e | e | e | e | e | e | e | e
  · exact z0 (lgz.mpr e)
  · exact z1 (lgz.mpr e)
  · exact z2 (lgz.mpr e)
  · exact z3 (lgz.mpr e)
  · exact z4 (lgz.mpr e)
  · exact z5 (lgz.mpr e)
  · exact z6 (lgz.mpr e)
  · exact z7 (lgz.mpr e)
theorem kN2 {v : Int64} (z0 : ¬ lg_cmp v 247552 = 0) (z1 : ¬ lg_cmp v 6460043375 = 0) (z2 : ¬ lg_cmp v 985142 = 0) (z3 : ¬ lg_cmp v 582248 = 0) (z4 : ¬ lg_cmp v 456392 = 0) (z5 : ¬ lg_cmp v 7672732672 = 0) (z6 : ¬ lg_cmp v 3094387 = 0) : v ∉ kG2 := by
  intro h
  simp only [kG2, List.mem_cons, List.not_mem_nil, or_false] at h
  rcases h with e | e | e | e | e | e | e
  · exact z0 (lgz.mpr e)
  · exact z1 (lgz.mpr e)
  · exact z2 (lgz.mpr e)
  · exact z3 (lgz.mpr e)
  · exact z4 (lgz.mpr e)
  · exact z5 (lgz.mpr e)
  · exact z6 (lgz.mpr e)
theorem kN3 {v : Int64} (z0 : ¬ lg_cmp v 4027 = 0) (z1 : ¬ lg_cmp v 399641 = 0) (z2 : ¬ lg_cmp v 107681 = 0) (z3 : ¬ lg_cmp v 2682960935045 = 0) (z4 : ¬ lg_cmp v 458690 = 0) (z5 : ¬ lg_cmp v 123 = 0) (z6 : ¬ lg_cmp v 257 = 0) (z7 : ¬ lg_cmp v 1111 = 0) (z8 : ¬ lg_cmp v 423 = 0) (z9 : ¬ lg_cmp v 10631 = 0) (z10 : ¬ lg_cmp v 12155 = 0) : v ∉ kG3 := by
  intro h
  simp only [kG3, List.mem_cons, List.not_mem_nil, or_false] at h
  rcases h with e | e | e | e | e | e | e | e | e | e | e
  · exact z0 (lgz.mpr e)
  · exact z1 (lgz.mpr e)
  · exact z2 (lgz.mpr e)
  · exact z3 (lgz.mpr e)
  · exact z4 (lgz.mpr e)
  · exact z5 (lgz.mpr e)
  · exact z6 (lgz.mpr e)
  · exact z7 (lgz.mpr e)
  · exact z8 (lgz.mpr e)
  · exact z9 (lgz.mpr e)
  · exact z10 (lgz.mpr e)
theorem kD204 {h : Nat} {v : Int64} {M : Mem} {Q : Option Value → Mem → Prop} {x3 x4 s0 : Int32} (Hy : v ∈ key27 → Q (some (.int 1)) M) (Hn : v ∉ key27 → Q (some (.int 0)) M) (h3 : x3 = 0 ∧ v ∉ kG0 ∨ x3 = 1 ∧ v ∈ key27) (h4 : x4 = 0 ∧ v ∉ kG1 ∨ x4 = 1 ∧ v ∈ key27) (hs : s0 = 0 ∧ v ∉ kG2 ∨ s0 = 1 ∧ v ∈ key27) : DX11_isKey_204 h v x3 x4 s0 M Q := by
  unfold DX11_isKey_204 DX11_isKey_308 DX11_isKey_313
  have one : v ∈ key27 → ((1 : Int32) = 0 ∨ (1 : Int32) = 1) ∧ Q (some (.int 1)) M := fun q => ⟨Or.inr rfl, Hy q⟩
  refine ⟨fun q => ?_, fun q3 => ⟨fun q => ?_, fun q4 => ⟨fun q => ?_, fun qs => ?_⟩⟩⟩
  · rcases h3 with ⟨e, -⟩ | ⟨-, e⟩
    · exact absurd e q
    · exact one e
  · rcases h4 with ⟨e, -⟩ | ⟨-, e⟩
    · exact absurd e q
    · exact one e
  · rcases hs with ⟨e, -⟩ | ⟨-, e⟩
    · exact absurd e q
    · exact one e
  have Y3 : v ∈ kG3 → ((1 : Int32) = 0 ∨ (1 : Int32) = 1) ∧ Q (some (.int 1)) M := fun q => one (key_sup.2.2.2 v q)
  have g0 : v ∉ kG0 := by
    rcases h3 with ⟨-, e⟩ | ⟨e, -⟩
    · exact e
    · exact absurd (q3.symm.trans e) (by decide)
  have g1 : v ∉ kG1 := by
    rcases h4 with ⟨-, e⟩ | ⟨e, -⟩
    · exact e
    · exact absurd (q4.symm.trans e) (by decide)
  have g2 : v ∉ kG2 := by
    rcases hs with ⟨-, e⟩ | ⟨e, -⟩
    · exact e
    · exact absurd (qs.symm.trans e) (by decide)
  have N : v ∉ kG3 → ((0 : Int32) = 0 ∨ (0 : Int32) = 1) ∧ Q (some (.int 0)) M := by
    intro g3
    refine ⟨Or.inl rfl, Hn (fun q => ?_)⟩
    rcases List.mem_append.mp (key_sub v q) with q | q
    · exact g0 q
    · rcases List.mem_append.mp q with q | q
      · exact g1 q
      · rcases List.mem_append.mp q with q | q
        · exact g2 q
        · exact g3 q
  exact ⟨fun z => Y3 (by rw [lgz.mp z]; decide), fun z0 => ⟨fun z => Y3 (by rw [lgz.mp z]; decide), fun z1 => ⟨fun z => Y3 (by rw [lgz.mp z]; decide), fun z2 => ⟨fun z => Y3 (by rw [lgz.mp z]; decide), fun z3 => ⟨fun z => Y3 (by rw [lgz.mp z]; decide), fun z4 => ⟨fun z => Y3 (by rw [lgz.mp z]; decide), fun z5 => ⟨fun z => Y3 (by rw [lgz.mp z]; decide), fun z6 => ⟨fun z => Y3 (by rw [lgz.mp z]; decide), fun z7 => ⟨fun z => Y3 (by rw [lgz.mp z]; decide), fun z8 => ⟨fun z => Y3 (by rw [lgz.mp z]; decide), fun z9 => ⟨fun z10 => N (kN3 z0 z1 z2 z3 z4 z5 z6 z7 z8 z9 z10), fun z => Y3 (by rw [lgz.mp z]; decide)⟩⟩⟩⟩⟩⟩⟩⟩⟩⟩⟩
theorem kD141 {h : Nat} {v : Int64} {M : Mem} {Q : Option Value → Mem → Prop} {x3 s0 : Int32} (Hy : v ∈ key27 → Q (some (.int 1)) M) (Hn : v ∉ key27 → Q (some (.int 0)) M) (h3 : x3 = 0 ∧ v ∉ kG0 ∨ x3 = 1 ∧ v ∈ key27) (h4 : s0 = 0 ∧ v ∉ kG1 ∨ s0 = 1 ∧ v ∈ key27) : DX11_isKey_141 h v x3 s0 M Q := by
  unfold DX11_isKey_141 DX11_isKey_199
  have Y2 : v ∈ kG2 → DX11_isKey_204 h v x3 s0 1 M Q := fun q => kD204 Hy Hn h3 h4 (Or.inr ⟨rfl, key_sup.2.2.1 v q⟩)
  have N : v ∉ kG2 → DX11_isKey_204 h v x3 s0 0 M Q := fun q => kD204 Hy Hn h3 h4 (Or.inl ⟨rfl, q⟩)
  exact ⟨fun z => Y2 (by rw [lgz.mp z]; decide), fun z0 => ⟨fun z => Y2 (by rw [lgz.mp z]; decide), fun z1 => ⟨fun z => Y2 (by rw [lgz.mp z]; decide), fun z2 => ⟨fun z => Y2 (by rw [lgz.mp z]; decide), fun z3 => ⟨fun z => Y2 (by rw [lgz.mp z]; decide), fun z4 => ⟨fun z => Y2 (by rw [lgz.mp z]; decide), fun z5 => ⟨fun z6 => N (kN2 z0 z1 z2 z3 z4 z5 z6), fun z => Y2 (by rw [lgz.mp z]; decide)⟩⟩⟩⟩⟩⟩⟩
theorem kD71 {h : Nat} {v : Int64} {M : Mem} {Q : Option Value → Mem → Prop} {s0 : Int32} (Hy : v ∈ key27 → Q (some (.int 1)) M) (Hn : v ∉ key27 → Q (some (.int 0)) M) (h3 : s0 = 0 ∧ v ∉ kG0 ∨ s0 = 1 ∧ v ∈ key27) : DX11_isKey_71 h v s0 M Q := by
  unfold DX11_isKey_71 DX11_isKey_136
  have Y1 : v ∈ kG1 → DX11_isKey_141 h v s0 1 M Q := fun q => kD141 Hy Hn h3 (Or.inr ⟨rfl, key_sup.2.1 v q⟩)
  have N : v ∉ kG1 → DX11_isKey_141 h v s0 0 M Q := fun q => kD141 Hy Hn h3 (Or.inl ⟨rfl, q⟩)
  exact ⟨fun z => Y1 (by rw [lgz.mp z]; decide), fun z0 => ⟨fun z => Y1 (by rw [lgz.mp z]; decide), fun z1 => ⟨fun z => Y1 (by rw [lgz.mp z]; decide), fun z2 => ⟨fun z => Y1 (by rw [lgz.mp z]; decide), fun z3 => ⟨fun z => Y1 (by rw [lgz.mp z]; decide), fun z4 => ⟨fun z => Y1 (by rw [lgz.mp z]; decide), fun z5 => ⟨fun z => Y1 (by rw [lgz.mp z]; decide), fun z6 => ⟨fun z7 => N (kN1 z0 z1 z2 z3 z4 z5 z6 z7), fun z => Y1 (by rw [lgz.mp z]; decide)⟩⟩⟩⟩⟩⟩⟩⟩
theorem R_isKey {h j : Nat} {M : Mem} {Q : Option Value → Mem → Prop} (F : Fix M) (hj : mI M 29 5 = Int32.ofNat j) (h8 : j < 802) (Hy : mAJ M 33 j ∈ key27 → Q (some (.int 1)) M) (Hn : mAJ M 33 j ∉ key27 → Q (some (.int 0)) M) : E (h + 1) mdX11_isKey [.ref 29] M Q := by
  refine KX11_isKey ?_
  unfold DX11_isKey_0 DX11_isKey_66
  rw [hj, lt32 (by omega)]
  refine ⟨ok29 F, 33, rf29_4 F, ok33 F, by rw [ln33 F]; exact vp_of h8 (by decide), ?_⟩
  generalize mAJ M 33 j = v at Hy Hn
  have Y0 : v ∈ kG0 → DX11_isKey_71 h v 1 M Q := fun q => kD71 Hy Hn (Or.inr ⟨rfl, key_sup.1 v q⟩)
  have N : v ∉ kG0 → DX11_isKey_71 h v 0 M Q := fun q => kD71 Hy Hn (Or.inl ⟨rfl, q⟩)
  exact ⟨fun z => Y0 (by rw [lgz.mp z]; decide), fun z0 => ⟨fun z => Y0 (by rw [lgz.mp z]; decide), fun z1 => ⟨fun z => Y0 (by rw [lgz.mp z]; decide), fun z2 => ⟨fun z => Y0 (by rw [lgz.mp z]; decide), fun z3 => ⟨fun z => Y0 (by rw [lgz.mp z]; decide), fun z4 => ⟨fun z => Y0 (by rw [lgz.mp z]; decide), fun z5 => ⟨fun z6 => N (kN0 z0 z1 z2 z3 z4 z5 z6), fun z => Y0 (by rw [lgz.mp z]; decide)⟩⟩⟩⟩⟩⟩⟩
theorem key27_mem {v : Int64} : v ∈ key27 ↔ ∃ j, j < 33 ∧ v = key27.getD j 0 := by
  constructor
  · intro h
    obtain ⟨j, hj, e⟩ := List.mem_iff_getElem.mp h
    refine ⟨j, hj, ?_⟩
    rw [List.getD_eq_getElem?_getD, List.getElem?_eq_getElem hj, ← e]; rfl
  · rintro ⟨j, hj, rfl⟩
    have hl : j < key27.length := hj
    rw [List.getD_eq_getElem?_getD, List.getElem?_eq_getElem hl]
    exact List.getElem_mem hl
theorem R_isName {h j : Nat} {b : Nat → Int32} {n : Nat} {M : Mem} {Q : Option Value → Mem → Prop} (F : Fix M) (hB : By b) (hj : mI M 29 5 = Int32.ofNat j) (h8 : j < 802) (hR : RkR M b n j) (H : Q (some (.int (if tK b n j = 2 then 1 else 0))) M) : E (h + 2) mdX11_isName [.ref 29] M Q := by
  obtain ⟨r1, r2, r3⟩ := hR
  refine KX11_isName ?_
  unfold DX11_isName_0 DX11_isName_24 DX11_isName_25
  have hn := said_name (b := b) (n := n) (p := tP b n j) hB
  have eK : tK b n j = ckK b n (tP b n j) := rfl
  rw [eK] at H
  refine ⟨ok29 F, 31, rf29_2 F, ok31 F, by rw [ln31 F, hj]; exact vp_of h8 (by decide), fun hc => ⟨Or.inl rfl, ?_⟩, fun hc => ?_⟩
  · rw [hj, lt32 (by omega), r1] at hc
    rw [if_neg (fun z => hc (hn.mpr z).1)] at H
    exact H
  · rw [hj, lt32 (by omega), r1] at hc
    refine R_isKey F hj h8 (fun hk => fun _ => ⟨_, rfl, fun _ => ⟨Or.inl rfl, ?_⟩, fun z => absurd z (by decide)⟩) (fun hk => fun _ => ⟨_, rfl, fun z => absurd rfl z, fun _ => ⟨Or.inr rfl, ?_⟩⟩)
    · rw [r3, key27_mem] at hk
      obtain ⟨q, hq, e⟩ := hk
      rw [if_neg (fun z => (hn.mpr z).2 q hq e)] at H
      exact H
    · rw [r3] at hk
      have : ckK b n (tP b n j) = 2 := hn.mp ⟨hc, fun q hq e => hk (key27_mem.mpr ⟨q, hq, e⟩)⟩
      rw [if_pos this] at H
      exact H
/-! the reference's rows of a module -/
def NmR (b : Nat → Int32) (n : Nat) (c v : Int64) : Prop := ∃ p, WD b n p ∧ c = ckC b n p ∧ v = rV b n p
theorem NmR.eq {b : Nat → Int32} {n : Nat} {c v c' v' : Int64} (h : NmR b n c v) (h' : NmR b n c' v') : (c = c') ↔ (v = v') := by
  obtain ⟨p, w, rfl, rfl⟩ := h
  obtain ⟨p', w', rfl, rfl⟩ := h'
  exact WD_eq w w'
def RE (b : Nat → Int32) (n : Nat) (M : Mem) (m : Nat) (sN : List Int64) (ro mx : List Int32) (vN : List Int64) : Prop :=
  mI M 29 19 = Int32.ofNat m ∧ m < 4 ∧ (sN.length ≤ 16 ∧ ro.length = sN.length ∧ mx.length = sN.length ∧ vN.length ≤ 6) ∧ mAI M 34 m = Int32.ofNat sN.length ∧ mAI M 36 m = Int32.ofNat vN.length ∧
  (∀ k, k < sN.length → NmR b n (sN.getD k 0) (mAJ M 37 (16 * m + k))) ∧ (∀ k, k < sN.length → mAI M 38 (16 * m + k) = ro.getD k 0 - 30) ∧ (∀ k, k < sN.length → mAI M 39 (16 * m + k) = (if mx.getD k 0 = 0 then 0 else mx.getD k 0 - 32) ∧ mx.getD k 0 ≠ 32) ∧ (∀ k, k < vN.length → NmR b n (vN.getD k 0) (mAJ M 42 (6 * m + k)))
theorem mul32 {a c : Nat} : Int32.ofNat a * Int32.ofNat c = Int32.ofNat (a * c) := (Int32.ofNat_mul a c).symm
theorem rsig_loop {h m N : Nat} {b : Nat → Int32} {n : Nat} {c v : Int64} {M : Mem} {Q : Option Value → Mem → Prop} (F : Fix M) (hm : mI M 29 19 = Int32.ofNat m) (h4 : m < 4) (hN : mAI M 34 m = Int32.ofNat N) (h16 : N ≤ 16) (hv : NmR b n c v) : ∀ (l : List Int64) (j : Nat), j + l.length = N → (∀ k, k < l.length → NmR b n (l.getD k 0) (mAJ M 37 (16 * m + (j + k)))) → Q (some (.int (oj j (fd l c)))) M → T (h + 1) mdX11_signalNamed 2 [(0, .ref 29), (1, .long v), (3, .int (Int32.ofNat j))] [] M Q := by
  intro l
  induction l with
  | nil =>
    intro j hj _ H
    refine VX11_signalNamed_2 ?_
    unfold DX11_signalNamed_2
    have hj : j = N := hj
    rw [hm, lt32 (by omega)]
    refine ⟨ok29 F, 34, rf29_8 F, ok34 F, by rw [ln34 F]; exact vp_of h4 (by decide), fun _ => H, fun hc => absurd ?_ hc⟩
    rw [hN]; exact (le32 (by omega) (by omega)).mpr (by omega)
  | cons x l ih =>
    intro j hj hr H
    have hj : j + (l.length + 1) = N := hj
    refine VX11_signalNamed_2 ?_
    unfold DX11_signalNamed_2
    have e16 : (16 : Int32) * Int32.ofNat m + Int32.ofNat j = Int32.ofNat (16 * m + j) := by
      rw [show (16 : Int32) = Int32.ofNat 16 from rfl, mul32, add32]
    rw [hm, lt32 (by omega), succ32, e16, lt32 (by omega)]
    have q0 : NmR b n x (mAJ M 37 (16 * m + j)) := hr 0 (Nat.zero_lt_succ _)
    unfold fd at H
    refine ⟨ok29 F, 34, rf29_8 F, ok34 F, by rw [ln34 F]; exact vp_of h4 (by decide), fun hc => absurd hc ?_, fun _ => ⟨37, rf29_11 F, ok37 F, by rw [ln37 F]; exact vp_of (by omega) (by decide), fun hc => ?_, fun hc => ?_⟩⟩
    · rw [hN]; exact fun z => absurd ((le32 (by omega) (by omega)).mp z) (by omega)
    · rw [lgz, ← q0.eq hv] at hc
      rw [if_neg hc, oj_map] at H
      refine ih (j + 1) (by omega) (fun k hk => ?_) H
      have := hr (k + 1) (Nat.succ_lt_succ hk)
      rw [show j + 1 + k = j + (k + 1) by omega]
      exact this
    · rw [lgz, ← q0.eq hv] at hc
      rw [if_pos hc] at H
      exact H
theorem R_sigNamed {h m : Nat} {b : Nat → Int32} {n : Nat} {c v : Int64} {sN : List Int64} {ro mx : List Int32} {vN : List Int64} {M : Mem} {Q : Option Value → Mem → Prop} (F : Fix M) (hE : RE b n M m sN ro mx vN) (hv : NmR b n c v) (H : Q (some (.int (oi (fd sN c)))) M) : E (h + 1) mdX11_signalNamed [.ref 29, .long v] M Q := by
  obtain ⟨h1, h2, h3, h4, h5, h6, -⟩ := hE
  refine KX11_signalNamed ?_
  unfold DX11_signalNamed_0
  refine rsig_loop F h1 h2 h4 h3.1 hv sN 0 (Nat.zero_add _) (fun k hk => by rw [Nat.zero_add]; exact h6 k hk) ?_
  have e : oj 0 (fd sN c) = oi (fd sN c) := by cases fd sN c with
    | none => rfl
    | some k => show Int32.ofNat (0 + k) = Int32.ofNat k; rw [Nat.zero_add]
  rw [e]
  exact H
theorem rvar_loop {h m N : Nat} {b : Nat → Int32} {n : Nat} {c v : Int64} {M : Mem} {Q : Option Value → Mem → Prop} (F : Fix M) (hm : mI M 29 19 = Int32.ofNat m) (h4 : m < 4) (hN : mAI M 36 m = Int32.ofNat N) (h6 : N ≤ 6) (hv : NmR b n c v) : ∀ (l : List Int64) (j : Nat), j + l.length = N → (∀ k, k < l.length → NmR b n (l.getD k 0) (mAJ M 42 (6 * m + (j + k)))) → Q (some (.int (oj j (fd l c)))) M → T (h + 1) mdX11_variableNamed 2 [(0, .ref 29), (1, .long v), (3, .int (Int32.ofNat j))] [] M Q := by
  intro l
  induction l with
  | nil =>
    intro j hj _ H
    refine VX11_variableNamed_2 ?_
    unfold DX11_variableNamed_2
    have hj : j = N := hj
    rw [hm, lt32 (by omega)]
    refine ⟨ok29 F, 36, rf29_10 F, ok36 F, by rw [ln36 F]; exact vp_of h4 (by decide), fun _ => H, fun hc => absurd ?_ hc⟩
    rw [hN]; exact (le32 (by omega) (by omega)).mpr (by omega)
  | cons x l ih =>
    intro j hj hr H
    have hj : j + (l.length + 1) = N := hj
    refine VX11_variableNamed_2 ?_
    unfold DX11_variableNamed_2
    have e6 : (6 : Int32) * Int32.ofNat m + Int32.ofNat j = Int32.ofNat (6 * m + j) := by
      rw [show (6 : Int32) = Int32.ofNat 6 from rfl, mul32, add32]
    rw [hm, lt32 (by omega), succ32, e6, lt32 (by omega)]
    have q0 : NmR b n x (mAJ M 42 (6 * m + j)) := hr 0 (Nat.zero_lt_succ _)
    unfold fd at H
    refine ⟨ok29 F, 36, rf29_10 F, ok36 F, by rw [ln36 F]; exact vp_of h4 (by decide), fun hc => absurd hc ?_, fun _ => ⟨42, rf29_16 F, ok42 F, by rw [ln42 F]; exact vp_of (by omega) (by decide), fun hc => ?_, fun hc => ?_⟩⟩
    · rw [hN]; exact fun z => absurd ((le32 (by omega) (by omega)).mp z) (by omega)
    · rw [lgz, ← q0.eq hv] at hc
      rw [if_neg hc, oj_map] at H
      refine ih (j + 1) (by omega) (fun k hk => ?_) H
      have := hr (k + 1) (Nat.succ_lt_succ hk)
      rw [show j + 1 + k = j + (k + 1) by omega]
      exact this
    · rw [lgz, ← q0.eq hv] at hc
      rw [if_pos hc] at H
      exact H
theorem R_varNamed {h m : Nat} {b : Nat → Int32} {n : Nat} {c v : Int64} {sN : List Int64} {ro mx : List Int32} {vN : List Int64} {M : Mem} {Q : Option Value → Mem → Prop} (F : Fix M) (hE : RE b n M m sN ro mx vN) (hv : NmR b n c v) (H : Q (some (.int (oi (fd vN c)))) M) : E (h + 1) mdX11_variableNamed [.ref 29, .long v] M Q := by
  obtain ⟨h1, h2, h3, h4, h5, h6, h7, h8, h9⟩ := hE
  refine KX11_variableNamed ?_
  unfold DX11_variableNamed_0
  refine rvar_loop F h1 h2 h5 h3.2.2.2 hv vN 0 (Nat.zero_add _) (fun k hk => by rw [Nat.zero_add]; exact h9 k hk) ?_
  have e : oj 0 (fd vN c) = oi (fd vN c) := by cases fd vN c with
    | none => rfl
    | some k => show Int32.ofNat (0 + k) = Int32.ofNat k; rw [Nat.zero_add]
  rw [e]
  exact H
end
section
/-! the reference reads sums: its stacks -/
def RFm (m : Nat) (M M' : Mem) : Prop := mN M' = mN M ∧ mS M' = mS M ∧ mK M' = mK M ∧ mL M' = mL M ∧ mR M' = mR M ∧ mAR M' = mAR M ∧ mJ M' = mJ M ∧ (∀ a, a ≠ 29 → mI M' a = mI M a) ∧ (∀ f, f ∉ [5, 6, 7, 29, 31, 32, 33] → mI M' 29 f = mI M 29 f) ∧ (∀ a, a ∉ [48, 49, 51, 52, 53] → mAI M' a = mAI M a) ∧ (∀ a, a ≠ 50 → mAJ M' a = mAJ M a) ∧ (∀ j, j ≠ m → mAI M' 48 j = mAI M 48 j) ∧ (∀ k, k < 810 * m → mAI M' 49 k = mAI M 49 k ∧ mAJ M' 50 k = mAJ M 50 k ∧ mAI M' 51 k = mAI M 51 k)
theorem mAI_wAI_ne {M : Mem} {c k a : Nat} {v : Int32} (h : a ≠ c) : mAI (wAI M c k v) a = mAI M a := up2_row h
theorem RFm.rf {m : Nat} {M : Mem} : RFm m M M := ⟨rfl, rfl, rfl, rfl, rfl, rfl, rfl, fun _ _ => rfl, fun _ _ => rfl, fun _ _ => rfl, fun _ _ => rfl, fun _ _ => rfl, fun _ _ => ⟨rfl, rfl, rfl⟩⟩
theorem RFm.tr {m : Nat} {M M1 M2 : Mem} (h : RFm m M M1) (k : RFm m M1 M2) : RFm m M M2 := by
  obtain ⟨a1, a2, a3, a4, a5, a6, a7, a8, a9, aA, aB, aC, aD⟩ := h
  obtain ⟨b1, b2, b3, b4, b5, b6, b7, b8, b9, bA, bB, bC, bD⟩ := k
  exact ⟨b1.trans a1, b2.trans a2, b3.trans a3, b4.trans a4, b5.trans a5, b6.trans a6, b7.trans a7, fun a q => (b8 a q).trans (a8 a q), fun f q => (b9 f q).trans (a9 f q), fun a q => (bA a q).trans (aA a q), fun a q => (bB a q).trans (aB a q), fun j q => (bC j q).trans (aC j q), fun k q => ⟨(bD k q).1.trans (aD k q).1, (bD k q).2.1.trans (aD k q).2.1, (bD k q).2.2.trans (aD k q).2.2⟩⟩
theorem RFm.i {m f : Nat} {M : Mem} {v : Int32} (hf : f ∈ [5, 6, 7, 29, 31, 32, 33]) : RFm m M (wI M 29 f v) := ⟨rfl, rfl, rfl, rfl, rfl, rfl, rfl, fun a q => up2_row q, fun g q => by rw [mI_wI, if_neg (fun z : 29 = 29 ∧ g = f => q (by rw [z.2]; exact hf))], fun _ _ => rfl, fun _ _ => rfl, fun _ _ => rfl, fun _ _ => ⟨rfl, rfl, rfl⟩⟩
theorem RFm.st {m c k : Nat} {M : Mem} {v : Int32} (hc : c = 52 ∨ c = 53) : RFm m M (wAI M c k v) := ⟨rfl, rfl, rfl, rfl, rfl, rfl, rfl, fun _ _ => rfl, fun _ _ => rfl, fun a q => up2_row (by rintro rfl; rcases hc with rfl | rfl <;> exact q (by decide)), fun _ _ => rfl, fun j _ => by rw [mAI_wAI, if_neg (by rintro ⟨z, -⟩; omega)], fun j _ => ⟨by rw [mAI_wAI, if_neg (by rintro ⟨z, -⟩; omega)], rfl, by rw [mAI_wAI, if_neg (by rintro ⟨z, -⟩; omega)]⟩⟩
theorem RFm.e {m : Nat} {M M' : Mem} (h : RFm m M M') : mE M M' := ⟨Nat.le_of_eq h.1.symm, Nat.le_of_eq h.2.1.symm, fun a _ => ⟨by rw [h.2.2.1], by rw [h.2.2.2.1]⟩⟩
theorem RFm.fix {m : Nat} {M M' : Mem} (h : RFm m M M') (F : Fix M) : Fix M' := F.of_fr (S := fun _ => True) h.e (fun e _ => by rw [h.2.2.2.2.1]) (h.2.2.2.2.2.2.2.2.2.2.1 19 (by decide))
/-- tokens and names: what reading never changes -/
def CoR (b : Nat → Int32) (n s m : Nat) (sN : List Int64) (ro mx : List Int32) (vN : List Int64) (M : Mem) : Prop := Fix M ∧ (∀ j, j ≤ s → RkR M b n j) ∧ RE b n M m sN ro mx vN
theorem CoR.fr {b : Nat → Int32} {n s m : Nat} {sN : List Int64} {ro mx : List Int32} {vN : List Int64} {M M' : Mem} (h : CoR b n s m sN ro mx vN M) (k : RFm m M M') : CoR b n s m sN ro mx vN M' := by
  obtain ⟨h1, h2, h3⟩ := h
  have kI := k.2.2.2.2.2.2.2.2.1
  have kA := k.2.2.2.2.2.2.2.2.2.1
  have kJ := k.2.2.2.2.2.2.2.2.2.2.1
  refine ⟨k.fix h1, fun j hj => ?_, ?_⟩
  · obtain ⟨r1, r2, r3⟩ := h2 j hj
    exact ⟨by rw [kA 31 (by decide)]; exact r1, by rw [kA 32 (by decide)]; exact r2, by rw [kJ 33 (by decide)]; exact r3⟩
  · obtain ⟨e1, e2, e3, e4, e5, e6, e7, e8, e9⟩ := h3
    exact ⟨by rw [kI 19 (by decide)]; exact e1, e2, e3, by rw [kA 34 (by decide)]; exact e4, by rw [kA 36 (by decide)]; exact e5, by rw [kJ 37 (by decide)]; exact e6, by rw [kA 38 (by decide)]; exact e7, by rw [kA 39 (by decide)]; exact e8, by rw [kJ 42 (by decide)]; exact e9⟩
def nd0 : Nd := (0, 0, 0)
def xa (m : Nat) (d : Nd) : Int64 := if d.1 < 3 then d.2.1 else d.2.1 + Int64.ofNat (810 * m)
def xb (m : Nat) (d : Nd) : Int32 := if d.1 ≤ 3 then 0 else Int32.ofNat (810 * m + d.2.2)
def XR (M : Mem) (m : Nat) (X : List Nd) : Prop := mAI M 48 m = Int32.ofNat X.length ∧ ∀ k, k < X.length → mAI M 49 (810 * m + k) = Int32.ofNat (X.getD k nd0).1 ∧ mAJ M 50 (810 * m + k) = xa m (X.getD k nd0) ∧ mAI M 51 (810 * m + k) = xb m (X.getD k nd0)
/-- a stack of the reference: head on top -/
def St (M : Mem) (c f a0 : Nat) (l : List Nat) : Prop := mI M 29 f = Int32.ofNat l.length ∧ ∀ j, j < l.length → mAI M c j = Int32.ofNat (a0 + l.reverse.getD j 0)
theorem St.fr {M M' : Mem} {c f a0 : Nat} {l : List Nat} (h : St M c f a0 l) (hi : mI M' 29 f = mI M 29 f) (ha : mAI M' c = mAI M c) : St M' c f a0 l := ⟨hi.trans h.1, fun j hj => by rw [ha]; exact h.2 j hj⟩
theorem rev_app {l : List Nat} {x j : Nat} (h : j < l.length + 1) : (x :: l).reverse.getD j 0 = if j = l.length then x else l.reverse.getD j 0 := by
  rw [List.reverse_cons, List.getD_eq_getElem?_getD, List.getD_eq_getElem?_getD]
  have hl : l.reverse.length = l.length := List.length_reverse
  by_cases hj : j = l.length
  · rw [if_pos hj, hj, ← hl, List.getElem?_append_right (Nat.le_refl _), Nat.sub_self]; rfl
  · rw [if_neg hj, List.getElem?_append_left (by omega)]
theorem St.push {M M' : Mem} {c f a0 x : Nat} {l : List Nat} (h : St M c f a0 l) (e : M' = wI (wAI M c l.length (Int32.ofNat (a0 + x))) 29 f (Int32.ofNat (l.length + 1))) : St M' c f a0 (x :: l) := by
  refine ⟨by rw [e]; exact mI_own _ _ _ _, fun j hj => ?_⟩
  have hj : j < l.length + 1 := hj
  rw [rev_app hj, e, mAI_wI, mAI_wAI]
  by_cases q : j = l.length
  · rw [if_pos ⟨rfl, q⟩, if_pos q]
  · rw [if_neg (fun z => q z.2), if_neg q]
    exact h.2 j (by omega)
theorem St.top {M : Mem} {c f a0 x : Nat} {l : List Nat} (h : St M c f a0 (x :: l)) : mAI M c l.length = Int32.ofNat (a0 + x) := by
  have := h.2 l.length (Nat.lt_succ_self _)
  rw [rev_app (Nat.lt_succ_self _), if_pos rfl] at this
  exact this
theorem St.pop {M M' : Mem} {c f a0 x : Nat} {l : List Nat} (h : St M c f a0 (x :: l)) (e : M' = wI M 29 f (Int32.ofNat l.length)) : St M' c f a0 l := by
  refine ⟨by rw [e]; exact mI_own _ _ _ _, fun j hj => ?_⟩
  have := h.2 j (Nat.lt_succ_of_lt hj)
  rw [rev_app (Nat.lt_succ_of_lt hj), if_neg (by omega)] at this
  rw [e, mAI_wI]
  exact this
/-- the reference as it reads a sum: i-th token, o opened, pr brackets, stacks of operators and of nodes, the nodes so far -/
def W6 (M : Mem) (w : Int32 × Int32) : Prop := mI M 29 6 = w.1 ∧ (w.1 = 0 ∨ mI M 29 7 = w.2)
theorem W6.fr {M M' : Mem} {w : Int32 × Int32} (h : W6 M w) (e6 : mI M' 29 6 = mI M 29 6) (e7 : mI M' 29 7 = mI M 29 7) : W6 M' w := ⟨e6.trans h.1, h.2.elim Or.inl (fun q => Or.inr (e7.trans q))⟩
def SR (b : Nat → Int32) (n s m : Nat) (sN : List Int64) (ro mx : List Int32) (vN : List Int64) (w : Int32 × Int32) (M : Mem) (i o pr : Nat) (σ ν : List Nat) (X : List Nd) : Prop := CoR b n s m sN ro mx vN M ∧ (n ≤ 800 ∧ s ≤ n ∧ i ≤ s) ∧ mI M 29 5 = Int32.ofNat i ∧ W6 M w ∧ mI M 29 33 = Int32.ofNat o ∧ mI M 29 32 = Int32.ofNat pr ∧ St M 52 29 0 σ ∧ St M 53 31 (810 * m) ν ∧ XR M m X ∧ (X.length + σ.length ≤ i ∧ ν.length ≤ i ∧ o ≤ 15 ∧ pr ≤ i ∧ ∀ x ∈ ν, x < X.length)
/-- behind a fault -/
def TXr (M : Mem) (f : Int32) (p : Nat) : Prop := Fix M ∧ mI M 29 6 = f ∧ 0 < f ∧ mI M 29 7 = Int32.ofNat p
section
variable {b : Nat → Int32} {n s m : Nat} {sN : List Int64} {ro mx : List Int32} {vN : List Int64} {w : Int32 × Int32} {M : Mem} {i o pr : Nat} {σ ν : List Nat} {X : List Nd} {h : Nat} {Q : Option Value → Mem → Prop}
theorem XR.fr {M' : Mem} (h : XR M m X) (h48 : mAI M' 48 = mAI M 48) (h49 : mAI M' 49 = mAI M 49) (h50 : mAJ M' 50 = mAJ M 50) (h51 : mAI M' 51 = mAI M 51) : XR M' m X := ⟨by rw [h48]; exact h.1, fun k hk => by rw [h49, h50, h51]; exact h.2 k hk⟩
theorem B_popped {x : Nat} (hR : SR b n s m sN ro mx vN w M i o pr σ (x :: ν) X) (H : ∀ M', SR b n s m sN ro mx vN w M' i o pr σ ν X → RFm m M M' → Q (some (.int (Int32.ofNat (810 * m + x)))) M') : E (h + 1) mdX11_popped [.ref 29] M Q := by
  obtain ⟨h1, h2, h3, h4, h5, h6, h7, h8, h9, h10⟩ := hR
  have F := h1.1
  have hl : ν.length + 1 ≤ i := h10.2.1
  refine KX11_popped ?_
  unfold DX11_popped_0
  have e31 : mI M 29 31 = Int32.ofNat (ν.length + 1) := h8.1
  rw [e31, show Int32.ofNat (ν.length + 1) - 1 = Int32.ofNat ν.length from sub32 (c := 1) (by omega) (by omega)]
  refine ⟨ok29 F, fun M2 e2 => ?_⟩
  have F2 : Fix M2 := by rw [e2]; exact F.i
  have i2 : mI M2 29 31 = Int32.ofNat ν.length := by rw [e2]; exact mI_own _ _ _ _
  have t2 : mAI M2 53 ν.length = Int32.ofNat (810 * m + x) := by rw [e2, mAI_wI]; exact h8.top
  rw [i2, lt32 (by omega)]
  refine ⟨53, rf29_30 F2, ok53 F2, by rw [ln53 F2]; exact vp_of (by omega) (by decide), ?_⟩
  rw [t2]
  have fr : RFm m M M2 := by rw [e2]; exact RFm.i (by decide)
  exact H M2 ⟨h1.fr fr, h2, by rw [e2]; simp [h3, mNwI, mSwI, mKwI, mIwI, mJwI, mRwI, mLwI, mAIwI, mAJwI, mARwI, mNwJ, mSwJ, mKwJ, mIwJ, mJwJ, mRwJ, mLwJ, mAIwJ, mAJwJ, mARwJ, mNwR, mSwR, mKwR, mIwR, mJwR, mRwR, mLwR, mAIwR, mAJwR, mARwR, mNwAI, mSwAI, mKwAI, mIwAI, mJwAI, mRwAI, mLwAI, mAIwAI, mAJwAI, mARwAI, mNwAJ, mSwAJ, mKwAJ, mIwAJ, mJwAJ, mRwAJ, mLwAJ, mAIwAJ, mAJwAJ, mARwAJ, mNwAR, mSwAR, mKwAR, mIwAR, mJwAR, mRwAR, mLwAR, mAIwAR, mAJwAR, mARwAR, okkwI, okkwJ, okkwR, okkwAI, okkwAJ, okkwAR], h4.fr (by rw [e2]; simp [mNwI, mSwI, mKwI, mIwI, mJwI, mRwI, mLwI, mAIwI, mAJwI, mARwI, mNwJ, mSwJ, mKwJ, mIwJ, mJwJ, mRwJ, mLwJ, mAIwJ, mAJwJ, mARwJ, mNwR, mSwR, mKwR, mIwR, mJwR, mRwR, mLwR, mAIwR, mAJwR, mARwR, mNwAI, mSwAI, mKwAI, mIwAI, mJwAI, mRwAI, mLwAI, mAIwAI, mAJwAI, mARwAI, mNwAJ, mSwAJ, mKwAJ, mIwAJ, mJwAJ, mRwAJ, mLwAJ, mAIwAJ, mAJwAJ, mARwAJ, mNwAR, mSwAR, mKwAR, mIwAR, mJwAR, mRwAR, mLwAR, mAIwAR, mAJwAR, mARwAR, okkwI, okkwJ, okkwR, okkwAI, okkwAJ, okkwAR]) (by rw [e2]; simp [mNwI, mSwI, mKwI, mIwI, mJwI, mRwI, mLwI, mAIwI, mAJwI, mARwI, mNwJ, mSwJ, mKwJ, mIwJ, mJwJ, mRwJ, mLwJ, mAIwJ, mAJwJ, mARwJ, mNwR, mSwR, mKwR, mIwR, mJwR, mRwR, mLwR, mAIwR, mAJwR, mARwR, mNwAI, mSwAI, mKwAI, mIwAI, mJwAI, mRwAI, mLwAI, mAIwAI, mAJwAI, mARwAI, mNwAJ, mSwAJ, mKwAJ, mIwAJ, mJwAJ, mRwAJ, mLwAJ, mAIwAJ, mAJwAJ, mARwAJ, mNwAR, mSwAR, mKwAR, mIwAR, mJwAR, mRwAR, mLwAR, mAIwAR, mAJwAR, mARwAR, okkwI, okkwJ, okkwR, okkwAI, okkwAJ, okkwAR]), by rw [e2]; simp [h5, mNwI, mSwI, mKwI, mIwI, mJwI, mRwI, mLwI, mAIwI, mAJwI, mARwI, mNwJ, mSwJ, mKwJ, mIwJ, mJwJ, mRwJ, mLwJ, mAIwJ, mAJwJ, mARwJ, mNwR, mSwR, mKwR, mIwR, mJwR, mRwR, mLwR, mAIwR, mAJwR, mARwR, mNwAI, mSwAI, mKwAI, mIwAI, mJwAI, mRwAI, mLwAI, mAIwAI, mAJwAI, mARwAI, mNwAJ, mSwAJ, mKwAJ, mIwAJ, mJwAJ, mRwAJ, mLwAJ, mAIwAJ, mAJwAJ, mARwAJ, mNwAR, mSwAR, mKwAR, mIwAR, mJwAR, mRwAR, mLwAR, mAIwAR, mAJwAR, mARwAR, okkwI, okkwJ, okkwR, okkwAI, okkwAJ, okkwAR], by rw [e2]; simp [h6, mNwI, mSwI, mKwI, mIwI, mJwI, mRwI, mLwI, mAIwI, mAJwI, mARwI, mNwJ, mSwJ, mKwJ, mIwJ, mJwJ, mRwJ, mLwJ, mAIwJ, mAJwJ, mARwJ, mNwR, mSwR, mKwR, mIwR, mJwR, mRwR, mLwR, mAIwR, mAJwR, mARwR, mNwAI, mSwAI, mKwAI, mIwAI, mJwAI, mRwAI, mLwAI, mAIwAI, mAJwAI, mARwAI, mNwAJ, mSwAJ, mKwAJ, mIwAJ, mJwAJ, mRwAJ, mLwAJ, mAIwAJ, mAJwAJ, mARwAJ, mNwAR, mSwAR, mKwAR, mIwAR, mJwAR, mRwAR, mLwAR, mAIwAR, mAJwAR, mARwAR, okkwI, okkwJ, okkwR, okkwAI, okkwAJ, okkwAR], h7.fr (by rw [e2]; simp [mNwI, mSwI, mKwI, mIwI, mJwI, mRwI, mLwI, mAIwI, mAJwI, mARwI, mNwJ, mSwJ, mKwJ, mIwJ, mJwJ, mRwJ, mLwJ, mAIwJ, mAJwJ, mARwJ, mNwR, mSwR, mKwR, mIwR, mJwR, mRwR, mLwR, mAIwR, mAJwR, mARwR, mNwAI, mSwAI, mKwAI, mIwAI, mJwAI, mRwAI, mLwAI, mAIwAI, mAJwAI, mARwAI, mNwAJ, mSwAJ, mKwAJ, mIwAJ, mJwAJ, mRwAJ, mLwAJ, mAIwAJ, mAJwAJ, mARwAJ, mNwAR, mSwAR, mKwAR, mIwAR, mJwAR, mRwAR, mLwAR, mAIwAR, mAJwAR, mARwAR, okkwI, okkwJ, okkwR, okkwAI, okkwAJ, okkwAR]) (by rw [e2]; rfl), h8.pop e2, h9.fr (by rw [e2]; rfl) (by rw [e2]; rfl) (by rw [e2]; rfl) (by rw [e2]; rfl), h10.1, by omega, h10.2.2.1, h10.2.2.2.1, fun y hy => h10.2.2.2.2 y (List.mem_cons_of_mem _ hy)⟩ fr
theorem B_pushed {x : Nat} (hR : SR b n s m sN ro mx vN w M i o pr σ ν X) (hl : ν.length + 1 ≤ i) (hx : x < X.length) (H : ∀ M', SR b n s m sN ro mx vN w M' i o pr σ (x :: ν) X → RFm m M M' → Q none M') : E (h + 1) mdX11_pushed [.ref 29, .int (Int32.ofNat (810 * m + x))] M Q := by
  obtain ⟨h1, h2, h3, h4, h5, h6, h7, h8, h9, h10⟩ := hR
  have F := h1.1
  refine KX11_pushed ?_
  unfold DX11_pushed_0
  rw [h8.1, lt32 (by omega)]
  refine ⟨ok29 F, 53, rf29_30 F, ok53 F, by rw [ln53 F]; exact vp_of (by omega) (by decide), fun M4 e4 M5 e5 => ?_⟩
  have i4 : mI M4 29 31 = Int32.ofNat ν.length := by rw [e4, mI_wAI]; exact h8.1
  rw [i4, succ32, e4] at e5
  have fr : RFm m M M5 := by rw [e5]; exact (RFm.st (Or.inr rfl)).tr (RFm.i (by decide))
  exact H M5 ⟨h1.fr fr, h2, by rw [e5]; simp [h3, mNwI, mSwI, mKwI, mIwI, mJwI, mRwI, mLwI, mAIwI, mAJwI, mARwI, mNwJ, mSwJ, mKwJ, mIwJ, mJwJ, mRwJ, mLwJ, mAIwJ, mAJwJ, mARwJ, mNwR, mSwR, mKwR, mIwR, mJwR, mRwR, mLwR, mAIwR, mAJwR, mARwR, mNwAI, mSwAI, mKwAI, mIwAI, mJwAI, mRwAI, mLwAI, mAIwAI, mAJwAI, mARwAI, mNwAJ, mSwAJ, mKwAJ, mIwAJ, mJwAJ, mRwAJ, mLwAJ, mAIwAJ, mAJwAJ, mARwAJ, mNwAR, mSwAR, mKwAR, mIwAR, mJwAR, mRwAR, mLwAR, mAIwAR, mAJwAR, mARwAR, okkwI, okkwJ, okkwR, okkwAI, okkwAJ, okkwAR], h4.fr (by rw [e5]; simp [mNwI, mSwI, mKwI, mIwI, mJwI, mRwI, mLwI, mAIwI, mAJwI, mARwI, mNwJ, mSwJ, mKwJ, mIwJ, mJwJ, mRwJ, mLwJ, mAIwJ, mAJwJ, mARwJ, mNwR, mSwR, mKwR, mIwR, mJwR, mRwR, mLwR, mAIwR, mAJwR, mARwR, mNwAI, mSwAI, mKwAI, mIwAI, mJwAI, mRwAI, mLwAI, mAIwAI, mAJwAI, mARwAI, mNwAJ, mSwAJ, mKwAJ, mIwAJ, mJwAJ, mRwAJ, mLwAJ, mAIwAJ, mAJwAJ, mARwAJ, mNwAR, mSwAR, mKwAR, mIwAR, mJwAR, mRwAR, mLwAR, mAIwAR, mAJwAR, mARwAR, okkwI, okkwJ, okkwR, okkwAI, okkwAJ, okkwAR]) (by rw [e5]; simp [mNwI, mSwI, mKwI, mIwI, mJwI, mRwI, mLwI, mAIwI, mAJwI, mARwI, mNwJ, mSwJ, mKwJ, mIwJ, mJwJ, mRwJ, mLwJ, mAIwJ, mAJwJ, mARwJ, mNwR, mSwR, mKwR, mIwR, mJwR, mRwR, mLwR, mAIwR, mAJwR, mARwR, mNwAI, mSwAI, mKwAI, mIwAI, mJwAI, mRwAI, mLwAI, mAIwAI, mAJwAI, mARwAI, mNwAJ, mSwAJ, mKwAJ, mIwAJ, mJwAJ, mRwAJ, mLwAJ, mAIwAJ, mAJwAJ, mARwAJ, mNwAR, mSwAR, mKwAR, mIwAR, mJwAR, mRwAR, mLwAR, mAIwAR, mAJwAR, mARwAR, okkwI, okkwJ, okkwR, okkwAI, okkwAJ, okkwAR]), by rw [e5]; simp [h5, mNwI, mSwI, mKwI, mIwI, mJwI, mRwI, mLwI, mAIwI, mAJwI, mARwI, mNwJ, mSwJ, mKwJ, mIwJ, mJwJ, mRwJ, mLwJ, mAIwJ, mAJwJ, mARwJ, mNwR, mSwR, mKwR, mIwR, mJwR, mRwR, mLwR, mAIwR, mAJwR, mARwR, mNwAI, mSwAI, mKwAI, mIwAI, mJwAI, mRwAI, mLwAI, mAIwAI, mAJwAI, mARwAI, mNwAJ, mSwAJ, mKwAJ, mIwAJ, mJwAJ, mRwAJ, mLwAJ, mAIwAJ, mAJwAJ, mARwAJ, mNwAR, mSwAR, mKwAR, mIwAR, mJwAR, mRwAR, mLwAR, mAIwAR, mAJwAR, mARwAR, okkwI, okkwJ, okkwR, okkwAI, okkwAJ, okkwAR], by rw [e5]; simp [h6, mNwI, mSwI, mKwI, mIwI, mJwI, mRwI, mLwI, mAIwI, mAJwI, mARwI, mNwJ, mSwJ, mKwJ, mIwJ, mJwJ, mRwJ, mLwJ, mAIwJ, mAJwJ, mARwJ, mNwR, mSwR, mKwR, mIwR, mJwR, mRwR, mLwR, mAIwR, mAJwR, mARwR, mNwAI, mSwAI, mKwAI, mIwAI, mJwAI, mRwAI, mLwAI, mAIwAI, mAJwAI, mARwAI, mNwAJ, mSwAJ, mKwAJ, mIwAJ, mJwAJ, mRwAJ, mLwAJ, mAIwAJ, mAJwAJ, mARwAJ, mNwAR, mSwAR, mKwAR, mIwAR, mJwAR, mRwAR, mLwAR, mAIwAR, mAJwAR, mARwAR, okkwI, okkwJ, okkwR, okkwAI, okkwAJ, okkwAR], h7.fr (by rw [e5]; simp [mNwI, mSwI, mKwI, mIwI, mJwI, mRwI, mLwI, mAIwI, mAJwI, mARwI, mNwJ, mSwJ, mKwJ, mIwJ, mJwJ, mRwJ, mLwJ, mAIwJ, mAJwJ, mARwJ, mNwR, mSwR, mKwR, mIwR, mJwR, mRwR, mLwR, mAIwR, mAJwR, mARwR, mNwAI, mSwAI, mKwAI, mIwAI, mJwAI, mRwAI, mLwAI, mAIwAI, mAJwAI, mARwAI, mNwAJ, mSwAJ, mKwAJ, mIwAJ, mJwAJ, mRwAJ, mLwAJ, mAIwAJ, mAJwAJ, mARwAJ, mNwAR, mSwAR, mKwAR, mIwAR, mJwAR, mRwAR, mLwAR, mAIwAR, mAJwAR, mARwAR, okkwI, okkwJ, okkwR, okkwAI, okkwAJ, okkwAR]) (by rw [e5, mAI_wI]; exact mAI_wAI_ne (by decide)), h8.push e5, h9.fr (by rw [e5, mAI_wI]; exact mAI_wAI_ne (by decide)) (by rw [e5, mAI_wI]; exact mAI_wAI_ne (by decide)) (by rw [e5]; rfl) (by rw [e5, mAI_wI]; exact mAI_wAI_ne (by decide)), h10.1, hl, h10.2.2.1, h10.2.2.2.1, fun y hy => by
    rcases List.mem_cons.mp hy with q | q
    · rw [q]; exact hx
    · exact h10.2.2.2.2 y q⟩ fr
theorem B_sum {d : Nd} {va : Int64} {vb : Int32} (hR : SR b n s m sN ro mx vN w M i o pr σ ν X) (hl : X.length + 1 + σ.length ≤ i + 1) (hx : X.length < 810) (ha : va = xa m d) (hb : vb = xb m d) (H : ∀ M', (X.length + 1 + σ.length ≤ i → SR b n s m sN ro mx vN w M' i o pr σ ν (X ++ [d])) → XR M' m (X ++ [d]) → (∀ f, mI M' 29 f = mI M 29 f) → mAI M' 52 = mAI M 52 → mAI M' 53 = mAI M 53 → CoR b n s m sN ro mx vN M' → RFm m M M' → Q (some (.int (Int32.ofNat (810 * m + X.length)))) M') : E (h + 1) mdX11_sum [.ref 29, .int (Int32.ofNat d.1), .long va, .int vb] M Q := by
  obtain ⟨h1, h2, h3, h4, h5, h6, h7, h8, h9, h10⟩ := hR
  have F := h1.1
  have hm := h1.2.2.2.1
  have e19 : mI M 29 19 = Int32.ofNat m := h1.2.2.1
  refine KX11_sum ?_
  unfold DX11_sum_0
  have ek : (810 : Int32) * Int32.ofNat m + Int32.ofNat X.length = Int32.ofNat (810 * m + X.length) := by
    rw [show (810 : Int32) = Int32.ofNat 810 from rfl, mul32, add32]
  have e48 : ∀ b4 : Nat, b4 = 48 → mAI M b4 m = Int32.ofNat X.length := by rintro _ rfl; exact h9.1
  rw [e19, lt32 (by omega)]
  refine ⟨ok29 F, 48, rf29_24 F, ok48 F, by rw [ln48 F]; exact vp_of hm (by decide), 48, rf29_24 F, ok48 F, by rw [ln48 F]; exact vp_of hm (by decide), by rw [ln48 F]; exact vp_of hm (by decide), fun A a => ?_⟩
  rw [h9.1, succ32] at a
  rw [h9.1, ek, lt32 (by omega)]
  have FA : Fix A := by rw [a]; exact F.ai
  refine ⟨49, rf29_25 FA, ok49 FA, by rw [ln49 FA]; exact vp_of (by omega) (by decide), fun B bb => ?_⟩
  have FB : Fix B := by rw [bb]; exact FA.ai
  refine ⟨50, rf29_26 FB, ok50 FB, by rw [ln50 FB]; exact vp_of (by omega) (by decide), fun C c => ?_⟩
  have FC : Fix C := by rw [c]; exact FB.aj (by decide)
  refine ⟨51, rf29_27 FC, ok51 FC, by rw [ln51 FC]; exact vp_of (by omega) (by decide), fun D dd => ?_⟩
  have eD : D = wAI (wAJ (wAI (wAI M 48 m (Int32.ofNat (X.length + 1))) 49 (810 * m + X.length) (Int32.ofNat d.1)) 50 (810 * m + X.length) va) 51 (810 * m + X.length) vb := by rw [dd, c, bb, a]
  have iD : ∀ f, mI D 29 f = mI M 29 f := fun f => by rw [eD]; rfl
  have s52 : mAI D 52 = mAI M 52 := by rw [eD, mAI_wAI_ne (by decide), mAI_wAJ, mAI_wAI_ne (by decide), mAI_wAI_ne (by decide)]
  have s53 : mAI D 53 = mAI M 53 := by rw [eD, mAI_wAI_ne (by decide), mAI_wAJ, mAI_wAI_ne (by decide), mAI_wAI_ne (by decide)]
  have fr : RFm m M D := by
    refine ⟨by rw [eD]; rfl, by rw [eD]; rfl, by rw [eD]; rfl, by rw [eD]; rfl, by rw [eD]; rfl, by rw [eD]; rfl, by rw [eD]; rfl, fun a _ => by rw [eD]; rfl, fun f _ => iD f, fun a q => ?_, fun a q => ?_, fun j q => ?_, fun k q => ⟨?_, ?_, ?_⟩⟩
    · rw [eD, mAI_wAI_ne (by rintro rfl; exact q (by decide)), mAI_wAJ, mAI_wAI_ne (by rintro rfl; exact q (by decide)), mAI_wAI_ne (by rintro rfl; exact q (by decide))]
    · rw [eD, mAJ_wAI]; exact up2_row q
    · rw [eD, mAI_wAI, if_neg (by omega), mAI_wAJ, mAI_wAI, if_neg (by omega), mAI_wAI, if_neg (by omega)]
    · rw [eD, mAI_wAI, if_neg (by omega), mAI_wAJ, mAI_wAI, if_neg (by omega), mAI_wAI, if_neg (by omega)]
    · rw [eD, mAJ_wAI, mAJ_wAJ, if_neg (by omega), mAJ_wAI, mAJ_wAI]
    · rw [eD, mAI_wAI, if_neg (by omega), mAI_wAJ, mAI_wAI, if_neg (by omega), mAI_wAI, if_neg (by omega)]
  have xr : XR D m (X ++ [d]) := by
    refine ⟨?_, fun k hk => ?_⟩
    · rw [eD, mAI_wAI, if_neg (by omega), mAI_wAJ, mAI_wAI, if_neg (by omega), mAI_wAI, if_pos ⟨rfl, rfl⟩, List.length_append]; rfl
    · rw [List.length_append] at hk
      have hk : k < X.length + 1 := hk
      have eg : (X ++ [d]).getD k nd0 = if k = X.length then d else X.getD k nd0 := by
        rw [List.getD_eq_getElem?_getD, List.getD_eq_getElem?_getD]
        by_cases q : k = X.length
        · rw [if_pos q, q, List.getElem?_append_right (Nat.le_refl _), Nat.sub_self]; rfl
        · rw [if_neg q, List.getElem?_append_left (by omega)]
      rw [eg]
      by_cases q : k = X.length
      · rw [if_pos q, q]
        refine ⟨?_, ?_, ?_⟩
        · rw [eD, mAI_wAI, if_neg (by omega), mAI_wAJ, mAI_wAI, if_pos ⟨rfl, rfl⟩]
        · rw [eD, mAJ_wAI, mAJ_wAJ, if_pos ⟨rfl, rfl⟩, ha]
        · rw [eD, mAI_wAI, if_pos ⟨rfl, rfl⟩, hb]
      · rw [if_neg q]
        obtain ⟨x1, x2, x3⟩ := h9.2 k (by omega)
        refine ⟨?_, ?_, ?_⟩
        · rw [eD, mAI_wAI, if_neg (by omega), mAI_wAJ, mAI_wAI, if_neg (by omega), mAI_wAI, if_neg (by omega)]; exact x1
        · rw [eD, mAJ_wAI, mAJ_wAJ, if_neg (by omega), mAJ_wAI, mAJ_wAI]; exact x2
        · rw [eD, mAI_wAI, if_neg (by omega), mAI_wAJ, mAI_wAI, if_neg (by omega), mAI_wAI, if_neg (by omega)]; exact x3
  exact H D (fun hle => ⟨h1.fr fr, h2, by rw [iD]; exact h3, h4.fr (iD 6) (iD 7), by rw [iD]; exact h5, by rw [iD]; exact h6, h7.fr (iD _) s52, h8.fr (iD _) s53, xr, by rw [List.length_append]; exact hle, h10.2.1, h10.2.2.1, h10.2.2.2.1, fun y hy => by rw [List.length_append]; exact Nat.lt_succ_of_lt (h10.2.2.2.2 y hy)⟩) xr iD s52 s53 (h1.fr fr) fr
end
end
section
/-! the reference reads sums: joining, closing, opening -/
/-- joins all pending operators: head is on top, with its left node; r is the right one -/
def jf : List (Nat × Nat) → Nat → List Nd → Nat × List Nd
  | [], r, X => (r, X)
  | e :: π, r, X => jf π X.length (X ++ [(e.1, Int64.ofNat e.2, r)])
theorem jf_app {e : Nat × Nat} : ∀ (π : List (Nat × Nat)) (r : Nat) (X : List Nd), jf (π ++ [e]) r X = ((jf π r X).2.length, (jf π r X).2 ++ [(e.1, Int64.ofNat e.2, (jf π r X).1)]) := by
  intro π
  induction π with
  | nil => intro r X; rfl
  | cons a π ih => intro r X; exact ih _ _
def ng : Nat → Nat → List Nd → Nat × List Nd
  | 0, r, X => (r, X)
  | k + 1, r, X => ng k X.length (X ++ [(3, Int64.ofNat r, 0)])
def top? (σ : List Nat) (P : Nat → Prop) : Prop := match σ with
  | [] => True
  | x :: _ => P x
theorem i64_add {a c : Nat} : Int64.ofNat a + Int64.ofNat c = Int64.ofNat (a + c) := (Int64.ofNat_add a c).symm
theorem i32_64 {a : Nat} (h : a < 2147483648) : (Int32.ofNat a).toInt64 = Int64.ofNat a := by
  rw [c64, ti32 h]; rfl
section
variable {b : Nat → Int32} {n s m : Nat} {sN : List Int64} {ro mx : List Int32} {vN : List Int64} {w : Int32 × Int32} {o pr : Nat} {h : Nat} {Q : Option Value → Mem → Prop}
/-- the operator on top goes -/
theorem SR.opPop {M M' : Mem} {i : Nat} {x : Nat} {σ ν : List Nat} {X : List Nd} {o' pr' : Nat} (h1 : CoR b n s m sN ro mx vN M) (h2 : n ≤ 800 ∧ s ≤ n ∧ i ≤ s) (h3 : mI M 29 5 = Int32.ofNat i) (h4 : W6 M w) (h7 : St M 52 29 0 (x :: σ)) (h8 : St M 53 31 (810 * m) ν) (h9 : XR M m X) (h10 : X.length + σ.length ≤ i ∧ ν.length ≤ i ∧ o' ≤ 15 ∧ pr' ≤ i ∧ ∀ x ∈ ν, x < X.length) (fr : RFm m M M') (e5 : mI M' 29 5 = mI M 29 5) (e6 : mI M' 29 6 = mI M 29 6) (e7 : mI M' 29 7 = mI M 29 7) (e29 : mI M' 29 29 = Int32.ofNat σ.length) (e31 : mI M' 29 31 = mI M 29 31) (e33 : mI M' 29 33 = Int32.ofNat o') (e32 : mI M' 29 32 = Int32.ofNat pr') (eA : mAI M' = mAI M) (eJ : mAJ M' = mAJ M) : SR b n s m sN ro mx vN w M' i o' pr' σ ν X := by
  refine ⟨h1.fr fr, h2, e5.trans h3, h4.fr e6 e7, e33, e32, ⟨e29, fun j hj => ?_⟩, h8.fr e31 (by rw [eA]), h9.fr (by rw [eA]) (by rw [eA]) (by rw [eJ]) (by rw [eA]), h10⟩
  have := h7.2 j (Nat.lt_succ_of_lt hj)
  rw [rev_app (Nat.lt_succ_of_lt hj), if_neg (by omega)] at this
  rw [eA]
  exact this
theorem B_joinT {L : Nat} {σb νb : List Nat} (hL : L = 6 ∨ L = 8) (hb : top? σb (fun x => x < 4 ∨ L < x)) : ∀ (π : List (Nat × Nat)) (r : Nat) (X : List Nd) (M : Mem) (i : Nat), (∀ e ∈ π, 4 ≤ e.1 ∧ e.1 ≤ L) → (∀ x ∈ σb, x < 100) → SR b n s m sN ro mx vN w M i o pr (π.map Prod.fst ++ σb) (r :: (π.map Prod.snd ++ νb)) X → (∀ M', SR b n s m sN ro mx vN w M' i o pr σb ((jf π r X).1 :: νb) (jf π r X).2 → RFm m M M' → Q none M') → T (h + 3) mdX11_joinSums 0 [(0, .ref 29), (1, .int (Int32.ofNat L))] [] M Q := by
  intro π
  have hL9 : L < 10 := by omega
  induction π with
  | nil =>
    intro r X M i _ h100 hR H
    have hR : SR b n s m sN ro mx vN w M i o pr σb (r :: νb) X := hR
    have F := hR.1.1
    have HQ : Q none M := H M hR RFm.rf
    have hi := hR.2.1
    have h7 := hR.2.2.2.2.2.2.1
    have h10 := hR.2.2.2.2.2.2.2.2.2
    clear H hR
    refine VX11_joinSums_0 ?_
    unfold DX11_joinSums_0 DX11_joinSums_82
    rw [h7.1]
    cases σb with
    | nil => exact ⟨ok29 F, fun _ => HQ, fun hc => absurd (by decide) hc⟩
    | cons x σ =>
      have hl : σ.length + 1 ≤ i := by
        have := h10.1
        simp only [List.length_cons] at this
        omega
      have e1 : Int32.ofNat (x :: σ).length - 1 = Int32.ofNat σ.length := sub32 (c := 1) (a := σ.length + 1) (by omega) (by omega)
      have tp := h7.top
      rw [Nat.zero_add] at tp
      have hx : x < 100 := h100 x List.mem_cons_self
      rw [e1, lt32 (by omega)]
      refine ⟨ok29 F, fun _ => HQ, fun _ => ⟨52, rf29_28 F, ok52 F, by rw [ln52 F]; exact vp_of (by omega) (by decide), fun _ => HQ, fun q => ⟨52, rf29_28 F, ok52 F, by rw [ln52 F]; exact vp_of (by omega) (by decide), fun _ => HQ, fun q2 => ?_⟩⟩⟩
      exfalso
      rw [tp] at q q2
      rcases hb with z | z
      · exact q ((ltn32 (b := 4) (by omega) (by decide)).mpr z)
      · exact q2 ((ltn32 (by omega) (by omega)).mpr z)
  | cons e π ih =>
    intro r X M i hπ h100 hR H
    obtain ⟨q4, qL⟩ := hπ e List.mem_cons_self
    have hR : SR b n s m sN ro mx vN w M i o pr (e.1 :: (π.map Prod.fst ++ σb)) (r :: e.2 :: (π.map Prod.snd ++ νb)) X := hR
    have F := hR.1.1
    have hi := hR.2.1
    have h7 := hR.2.2.2.2.2.2.1
    have h10 := hR.2.2.2.2.2.2.2.2.2
    have hl : (π.map Prod.fst ++ σb).length + 1 + X.length ≤ i := by have := h10.1; simp only [List.length_cons] at this; omega
    generalize hS : π.map Prod.fst ++ σb = S at *
    generalize hN : π.map Prod.snd ++ νb = N at *
    refine VX11_joinSums_0 ?_
    unfold DX11_joinSums_0
    have e29 : mI M 29 29 = Int32.ofNat (S.length + 1) := h7.1
    have e1 : Int32.ofNat (S.length + 1) - 1 = Int32.ofNat S.length := sub32 (c := 1) (by omega) (by omega)
    have tp := h7.top
    rw [Nat.zero_add] at tp
    rw [e29, e1, lt32 (by omega)]
    refine ⟨ok29 F, fun hc => ?_, fun _ => ⟨52, rf29_28 F, ok52 F, by rw [ln52 F]; exact vp_of (by omega) (by decide), fun hc => ?_, fun _ => ⟨52, rf29_28 F, ok52 F, by rw [ln52 F]; exact vp_of (by omega) (by decide), fun hc => ?_, fun _ => ?_⟩⟩⟩
    · exact absurd ((le32 (b := 0) (by omega) (by decide)).mp hc) (by omega)
    · rw [tp] at hc
      exact absurd ((ltn32 (b := 4) (by omega) (by decide)).mp hc) (by omega)
    · rw [tp] at hc
      exact absurd ((ltn32 (by omega) (by omega)).mp hc) (by omega)
    refine B_popped hR (fun M1 R1 F1 _ => ⟨_, rfl, B_popped R1 (fun M2 R2 F2 _ => ⟨_, rfl, 52, rf29_28 R2.1.1, ok52 R2.1.1, ?_⟩)⟩)
    have e29b : mI M2 29 29 = Int32.ofNat (S.length + 1) := R2.2.2.2.2.2.2.1.1
    have tp2 := R2.2.2.2.2.2.2.1.top
    rw [Nat.zero_add] at tp2
    rw [e29b, e1, lt32 (by omega), tp2]
    refine ⟨by rw [ln52 R2.1.1]; exact vp_of (by omega) (by decide), ?_⟩
    have hm := R2.1.2.2.2.1
    have hr : r < X.length := h10.2.2.2.2 r List.mem_cons_self
    have he : e.2 < X.length := h10.2.2.2.2 e.2 (List.mem_cons_of_mem _ List.mem_cons_self)
    refine B_sum (d := (e.1, Int64.ofNat e.2, r)) R2 (by show X.length + 1 + (S.length + 1) ≤ i + 1; omega) (by omega) ?_ ?_ (fun M3 _ x3 i3 s52 s53 c3 F3 _ => ⟨_, rfl, ?_⟩)
    · show (Int32.ofNat (810 * m + e.2)).toInt64 = xa m (e.1, Int64.ofNat e.2, r)
      unfold xa
      rw [if_neg (by show ¬ e.1 < 3; omega), i32_64 (by omega)]
      show _ = Int64.ofNat e.2 + Int64.ofNat (810 * m)
      rw [i64_add, Nat.add_comm]
    · show Int32.ofNat (810 * m + r) = xb m (e.1, Int64.ofNat e.2, r)
      unfold xb
      rw [if_neg (by show ¬ e.1 ≤ 3; omega)]
    -- the new node goes on top, the operator goes
    have hN2 : N.length + 2 ≤ i := h10.2.1
    refine KX11_pushed ?_
    unfold DX11_pushed_0
    have e31 : mI M3 29 31 = Int32.ofNat N.length := (i3 31).trans R2.2.2.2.2.2.2.2.1.1
    rw [e31, lt32 (by omega)]
    have FF := c3.1
    refine ⟨ok29 FF, 53, rf29_30 FF, ok53 FF, by rw [ln53 FF]; exact vp_of (by omega) (by decide), fun M4 e4 M5 e5 => ?_⟩
    have i4 : mI M4 29 31 = Int32.ofNat N.length := by rw [e4, mI_wAI]; exact e31
    rw [i4, succ32, e4] at e5
    refine fun _ => ⟨rfl, fun M6 e6 => ?_⟩
    have i5 : mI M5 29 29 = Int32.ofNat (S.length + 1) := by rw [e5]; simp [i3, e29b, mNwI, mSwI, mKwI, mIwI, mJwI, mRwI, mLwI, mAIwI, mAJwI, mARwI, mNwJ, mSwJ, mKwJ, mIwJ, mJwJ, mRwJ, mLwJ, mAIwJ, mAJwJ, mARwJ, mNwR, mSwR, mKwR, mIwR, mJwR, mRwR, mLwR, mAIwR, mAJwR, mARwR, mNwAI, mSwAI, mKwAI, mIwAI, mJwAI, mRwAI, mLwAI, mAIwAI, mAJwAI, mARwAI, mNwAJ, mSwAJ, mKwAJ, mIwAJ, mJwAJ, mRwAJ, mLwAJ, mAIwAJ, mAJwAJ, mARwAJ, mNwAR, mSwAR, mKwAR, mIwAR, mJwAR, mRwAR, mLwAR, mAIwAR, mAJwAR, mARwAR, okkwI, okkwJ, okkwR, okkwAI, okkwAJ, okkwAR]
    rw [i5, e1] at e6
    have st3 : St M3 53 31 (810 * m) N := R2.2.2.2.2.2.2.2.1.fr (i3 31) s53
    have st5 : St M5 53 31 (810 * m) (X.length :: N) := st3.push e5
    have ops3 : St M3 52 29 0 (e.1 :: S) := R2.2.2.2.2.2.2.1.fr (i3 29) s52
    have F5 : RFm m M3 M5 := by rw [e5]; exact (RFm.st (Or.inr rfl)).tr (RFm.i (by decide))
    have a52 : mAI M5 52 = mAI M3 52 := by rw [e5, mAI_wI]; exact mAI_wAI_ne (by decide)
    have ops5 : St M5 52 29 0 (e.1 :: S) := ops3.fr (by rw [e5]; simp [mNwI, mSwI, mKwI, mIwI, mJwI, mRwI, mLwI, mAIwI, mAJwI, mARwI, mNwJ, mSwJ, mKwJ, mIwJ, mJwJ, mRwJ, mLwJ, mAIwJ, mAJwJ, mARwJ, mNwR, mSwR, mKwR, mIwR, mJwR, mRwR, mLwR, mAIwR, mAJwR, mARwR, mNwAI, mSwAI, mKwAI, mIwAI, mJwAI, mRwAI, mLwAI, mAIwAI, mAJwAI, mARwAI, mNwAJ, mSwAJ, mKwAJ, mIwAJ, mJwAJ, mRwAJ, mLwAJ, mAIwAJ, mAJwAJ, mARwAJ, mNwAR, mSwAR, mKwAR, mIwAR, mJwAR, mRwAR, mLwAR, mAIwAR, mAJwAR, mARwAR, okkwI, okkwJ, okkwR, okkwAI, okkwAJ, okkwAR]) a52
    have x5 : XR M5 m (X ++ [(e.1, Int64.ofNat e.2, r)]) := x3.fr (by rw [e5, mAI_wI]; exact mAI_wAI_ne (by decide)) (by rw [e5, mAI_wI]; exact mAI_wAI_ne (by decide)) (by rw [e5]; rfl) (by rw [e5, mAI_wI]; exact mAI_wAI_ne (by decide))
    have F6 : RFm m M5 M6 := by rw [e6]; exact RFm.i (by decide)
    have g : ∀ f, f ≠ 31 → mI M5 29 f = mI M2 29 f := by intro f hf; rw [e5]; simp [hf, i3, mNwI, mSwI, mKwI, mIwI, mJwI, mRwI, mLwI, mAIwI, mAJwI, mARwI, mNwJ, mSwJ, mKwJ, mIwJ, mJwJ, mRwJ, mLwJ, mAIwJ, mAJwJ, mARwJ, mNwR, mSwR, mKwR, mIwR, mJwR, mRwR, mLwR, mAIwR, mAJwR, mARwR, mNwAI, mSwAI, mKwAI, mIwAI, mJwAI, mRwAI, mLwAI, mAIwAI, mAJwAI, mARwAI, mNwAJ, mSwAJ, mKwAJ, mIwAJ, mJwAJ, mRwAJ, mLwAJ, mAIwAJ, mAJwAJ, mARwAJ, mNwAR, mSwAR, mKwAR, mIwAR, mJwAR, mRwAR, mLwAR, mAIwAR, mAJwAR, mARwAR, okkwI, okkwJ, okkwR, okkwAI, okkwAJ, okkwAR]
    have SR6 : SR b n s m sN ro mx vN w M6 i o pr S (X.length :: N) (X ++ [(e.1, Int64.ofNat e.2, r)]) := by
      refine SR.opPop (M := M5) (x := e.1) (c3.fr F5) hi ((g 5 (by decide)).trans R2.2.2.1) (R2.2.2.2.1.fr (g 6 (by decide)) (g 7 (by decide))) ops5 st5 x5 ⟨by rw [List.length_append]; show X.length + 1 + S.length ≤ i; omega, by show N.length + 1 ≤ i; omega, h10.2.2.1, h10.2.2.2.1, fun y hy => ?_⟩ F6 (by rw [e6]; simp [mNwI, mSwI, mKwI, mIwI, mJwI, mRwI, mLwI, mAIwI, mAJwI, mARwI, mNwJ, mSwJ, mKwJ, mIwJ, mJwJ, mRwJ, mLwJ, mAIwJ, mAJwJ, mARwJ, mNwR, mSwR, mKwR, mIwR, mJwR, mRwR, mLwR, mAIwR, mAJwR, mARwR, mNwAI, mSwAI, mKwAI, mIwAI, mJwAI, mRwAI, mLwAI, mAIwAI, mAJwAI, mARwAI, mNwAJ, mSwAJ, mKwAJ, mIwAJ, mJwAJ, mRwAJ, mLwAJ, mAIwAJ, mAJwAJ, mARwAJ, mNwAR, mSwAR, mKwAR, mIwAR, mJwAR, mRwAR, mLwAR, mAIwAR, mAJwAR, mARwAR, okkwI, okkwJ, okkwR, okkwAI, okkwAJ, okkwAR]) (by rw [e6]; simp [mNwI, mSwI, mKwI, mIwI, mJwI, mRwI, mLwI, mAIwI, mAJwI, mARwI, mNwJ, mSwJ, mKwJ, mIwJ, mJwJ, mRwJ, mLwJ, mAIwJ, mAJwJ, mARwJ, mNwR, mSwR, mKwR, mIwR, mJwR, mRwR, mLwR, mAIwR, mAJwR, mARwR, mNwAI, mSwAI, mKwAI, mIwAI, mJwAI, mRwAI, mLwAI, mAIwAI, mAJwAI, mARwAI, mNwAJ, mSwAJ, mKwAJ, mIwAJ, mJwAJ, mRwAJ, mLwAJ, mAIwAJ, mAJwAJ, mARwAJ, mNwAR, mSwAR, mKwAR, mIwAR, mJwAR, mRwAR, mLwAR, mAIwAR, mAJwAR, mARwAR, okkwI, okkwJ, okkwR, okkwAI, okkwAJ, okkwAR]) (by rw [e6]; simp [mNwI, mSwI, mKwI, mIwI, mJwI, mRwI, mLwI, mAIwI, mAJwI, mARwI, mNwJ, mSwJ, mKwJ, mIwJ, mJwJ, mRwJ, mLwJ, mAIwJ, mAJwJ, mARwJ, mNwR, mSwR, mKwR, mIwR, mJwR, mRwR, mLwR, mAIwR, mAJwR, mARwR, mNwAI, mSwAI, mKwAI, mIwAI, mJwAI, mRwAI, mLwAI, mAIwAI, mAJwAI, mARwAI, mNwAJ, mSwAJ, mKwAJ, mIwAJ, mJwAJ, mRwAJ, mLwAJ, mAIwAJ, mAJwAJ, mARwAJ, mNwAR, mSwAR, mKwAR, mIwAR, mJwAR, mRwAR, mLwAR, mAIwAR, mAJwAR, mARwAR, okkwI, okkwJ, okkwR, okkwAI, okkwAJ, okkwAR]) (by rw [e6]; simp [mNwI, mSwI, mKwI, mIwI, mJwI, mRwI, mLwI, mAIwI, mAJwI, mARwI, mNwJ, mSwJ, mKwJ, mIwJ, mJwJ, mRwJ, mLwJ, mAIwJ, mAJwJ, mARwJ, mNwR, mSwR, mKwR, mIwR, mJwR, mRwR, mLwR, mAIwR, mAJwR, mARwR, mNwAI, mSwAI, mKwAI, mIwAI, mJwAI, mRwAI, mLwAI, mAIwAI, mAJwAI, mARwAI, mNwAJ, mSwAJ, mKwAJ, mIwAJ, mJwAJ, mRwAJ, mLwAJ, mAIwAJ, mAJwAJ, mARwAJ, mNwAR, mSwAR, mKwAR, mIwAR, mJwAR, mRwAR, mLwAR, mAIwAR, mAJwAR, mARwAR, okkwI, okkwJ, okkwR, okkwAI, okkwAJ, okkwAR]) (by rw [e6]; simp [mNwI, mSwI, mKwI, mIwI, mJwI, mRwI, mLwI, mAIwI, mAJwI, mARwI, mNwJ, mSwJ, mKwJ, mIwJ, mJwJ, mRwJ, mLwJ, mAIwJ, mAJwJ, mARwJ, mNwR, mSwR, mKwR, mIwR, mJwR, mRwR, mLwR, mAIwR, mAJwR, mARwR, mNwAI, mSwAI, mKwAI, mIwAI, mJwAI, mRwAI, mLwAI, mAIwAI, mAJwAI, mARwAI, mNwAJ, mSwAJ, mKwAJ, mIwAJ, mJwAJ, mRwAJ, mLwAJ, mAIwAJ, mAJwAJ, mARwAJ, mNwAR, mSwAR, mKwAR, mIwAR, mJwAR, mRwAR, mLwAR, mAIwAR, mAJwAR, mARwAR, okkwI, okkwJ, okkwR, okkwAI, okkwAJ, okkwAR]) (by rw [e6]; simp [g, R2.2.2.2.2.1, mNwI, mSwI, mKwI, mIwI, mJwI, mRwI, mLwI, mAIwI, mAJwI, mARwI, mNwJ, mSwJ, mKwJ, mIwJ, mJwJ, mRwJ, mLwJ, mAIwJ, mAJwJ, mARwJ, mNwR, mSwR, mKwR, mIwR, mJwR, mRwR, mLwR, mAIwR, mAJwR, mARwR, mNwAI, mSwAI, mKwAI, mIwAI, mJwAI, mRwAI, mLwAI, mAIwAI, mAJwAI, mARwAI, mNwAJ, mSwAJ, mKwAJ, mIwAJ, mJwAJ, mRwAJ, mLwAJ, mAIwAJ, mAJwAJ, mARwAJ, mNwAR, mSwAR, mKwAR, mIwAR, mJwAR, mRwAR, mLwAR, mAIwAR, mAJwAR, mARwAR, okkwI, okkwJ, okkwR, okkwAI, okkwAJ, okkwAR]) (by rw [e6]; simp [g, R2.2.2.2.2.2.1, mNwI, mSwI, mKwI, mIwI, mJwI, mRwI, mLwI, mAIwI, mAJwI, mARwI, mNwJ, mSwJ, mKwJ, mIwJ, mJwJ, mRwJ, mLwJ, mAIwJ, mAJwJ, mARwJ, mNwR, mSwR, mKwR, mIwR, mJwR, mRwR, mLwR, mAIwR, mAJwR, mARwR, mNwAI, mSwAI, mKwAI, mIwAI, mJwAI, mRwAI, mLwAI, mAIwAI, mAJwAI, mARwAI, mNwAJ, mSwAJ, mKwAJ, mIwAJ, mJwAJ, mRwAJ, mLwAJ, mAIwAJ, mAJwAJ, mARwAJ, mNwAR, mSwAR, mKwAR, mIwAR, mJwAR, mRwAR, mLwAR, mAIwAR, mAJwAR, mARwAR, okkwI, okkwJ, okkwR, okkwAI, okkwAJ, okkwAR]) (by rw [e6]; rfl) (by rw [e6]; rfl)
      rw [List.length_append]
      show y < X.length + 1
      rcases List.mem_cons.mp hy with q | q
      · omega
      · have := h10.2.2.2.2 y (List.mem_cons_of_mem _ (List.mem_cons_of_mem _ q))
        omega
    subst hS hN
    refine ih X.length (X ++ [(e.1, Int64.ofNat e.2, r)]) M6 i (fun y hy => hπ y (List.mem_cons_of_mem _ hy)) h100 SR6 (fun M7 R7 F7 => H M7 R7 (((((F1.tr F2).tr F3).tr F5).tr F6).tr F7))
end
end
section
/-! the reference reads sums: closing negatives, opening, an operand -/
section
variable {b : Nat → Int32} {n s m : Nat} {sN : List Int64} {ro mx : List Int32} {vN : List Int64} {w : Int32 × Int32} {pr : Nat} {h : Nat} {Q : Option Value → Mem → Prop}
theorem neg_body {M : Mem} {i o r : Nat} {σ ν : List Nat} {X : List Nd} {K : Mem → Prop} (hR : SR b n s m sN ro mx vN w M i (o + 1) pr (3 :: σ) (r :: ν) X) (H : ∀ M', SR b n s m sN ro mx vN w M' i o pr σ (X.length :: ν) (X ++ [(3, Int64.ofNat r, 0)]) → RFm m M M' → K M') :
    E (h + 1) mdX11_popped [.ref 29] M (fun r M4 => mE M M4 → ∃ r5 : Int32, r = some (.int r5) ∧ E (h + 1) mdX11_sum [.ref 29, .int 3, .long ((r5 : Int32).toInt64), .int 0] M4 (fun r M6 => mE M4 M6 → ∃ r7 : Int32, r = some (.int r7) ∧ E (h + 1) mdX11_pushed [.ref 29, .int r7] M6 (fun r M8 => mE M6 M8 → r = none ∧ ∀ M9 : Mem, M9 = wI M8 29 29 ((mI M8 29 29) - 1) → ∀ M10 : Mem, M10 = wI M9 29 33 ((mI M9 29 33) - 1) → K M10))) := by
  have hi := hR.2.1
  have h10 := hR.2.2.2.2.2.2.2.2.2
  have hl : X.length + (σ.length + 1) ≤ i := h10.1
  have hN2 : ν.length + 1 ≤ i := h10.2.1
  have hr : r < X.length := h10.2.2.2.2 r List.mem_cons_self
  refine B_popped hR (fun M2 R2 F2 _ => ⟨_, rfl, ?_⟩)
  have hm := R2.1.2.2.2.1
  refine B_sum (d := (3, Int64.ofNat r, 0)) R2 (by show X.length + 1 + (σ.length + 1) ≤ i + 1; omega) (by omega) ?_ rfl (fun M3 _ x3 i3 s52 s53 c3 F3 _ => ⟨_, rfl, ?_⟩)
  · show (Int32.ofNat (810 * m + r)).toInt64 = xa m (3, Int64.ofNat r, 0)
    unfold xa
    rw [if_neg (by show ¬ (3 : Nat) < 3; decide), i32_64 (by omega)]
    show _ = Int64.ofNat r + Int64.ofNat (810 * m)
    rw [i64_add, Nat.add_comm]
  refine KX11_pushed ?_
  unfold DX11_pushed_0
  have e31 : mI M3 29 31 = Int32.ofNat ν.length := (i3 31).trans R2.2.2.2.2.2.2.2.1.1
  rw [e31, lt32 (by omega)]
  have FF := c3.1
  refine ⟨ok29 FF, 53, rf29_30 FF, ok53 FF, by rw [ln53 FF]; exact vp_of (by omega) (by decide), fun M4 e4 M5 e5 => ?_⟩
  have i4 : mI M4 29 31 = Int32.ofNat ν.length := by rw [e4, mI_wAI]; exact e31
  rw [i4, succ32, e4] at e5
  refine fun _ => ⟨rfl, fun M6 e6 M7 e7 => ?_⟩
  have g : ∀ f, f ≠ 31 → mI M5 29 f = mI M2 29 f := by intro f hf; rw [e5]; simp [hf, i3, mNwI, mSwI, mKwI, mIwI, mJwI, mRwI, mLwI, mAIwI, mAJwI, mARwI, mNwJ, mSwJ, mKwJ, mIwJ, mJwJ, mRwJ, mLwJ, mAIwJ, mAJwJ, mARwJ, mNwR, mSwR, mKwR, mIwR, mJwR, mRwR, mLwR, mAIwR, mAJwR, mARwR, mNwAI, mSwAI, mKwAI, mIwAI, mJwAI, mRwAI, mLwAI, mAIwAI, mAJwAI, mARwAI, mNwAJ, mSwAJ, mKwAJ, mIwAJ, mJwAJ, mRwAJ, mLwAJ, mAIwAJ, mAJwAJ, mARwAJ, mNwAR, mSwAR, mKwAR, mIwAR, mJwAR, mRwAR, mLwAR, mAIwAR, mAJwAR, mARwAR, okkwI, okkwJ, okkwR, okkwAI, okkwAJ, okkwAR]
  have i5 : mI M5 29 29 = Int32.ofNat (σ.length + 1) := (g 29 (by decide)).trans R2.2.2.2.2.2.2.1.1
  rw [i5, show Int32.ofNat (σ.length + 1) - 1 = Int32.ofNat σ.length from sub32 (c := 1) (by omega) (by omega)] at e6
  have i6 : mI M6 29 33 = Int32.ofNat (o + 1) := by rw [e6]; simp [g, R2.2.2.2.2.1, mNwI, mSwI, mKwI, mIwI, mJwI, mRwI, mLwI, mAIwI, mAJwI, mARwI, mNwJ, mSwJ, mKwJ, mIwJ, mJwJ, mRwJ, mLwJ, mAIwJ, mAJwJ, mARwJ, mNwR, mSwR, mKwR, mIwR, mJwR, mRwR, mLwR, mAIwR, mAJwR, mARwR, mNwAI, mSwAI, mKwAI, mIwAI, mJwAI, mRwAI, mLwAI, mAIwAI, mAJwAI, mARwAI, mNwAJ, mSwAJ, mKwAJ, mIwAJ, mJwAJ, mRwAJ, mLwAJ, mAIwAJ, mAJwAJ, mARwAJ, mNwAR, mSwAR, mKwAR, mIwAR, mJwAR, mRwAR, mLwAR, mAIwAR, mAJwAR, mARwAR, okkwI, okkwJ, okkwR, okkwAI, okkwAJ, okkwAR]
  have ho := h10.2.2.1
  rw [i6, show Int32.ofNat (o + 1) - 1 = Int32.ofNat o from sub32 (c := 1) (by omega) (by omega), e6] at e7
  have st3 : St M3 53 31 (810 * m) ν := R2.2.2.2.2.2.2.2.1.fr (i3 31) s53
  have st5 : St M5 53 31 (810 * m) (X.length :: ν) := st3.push e5
  have ops3 : St M3 52 29 0 (3 :: σ) := R2.2.2.2.2.2.2.1.fr (i3 29) s52
  have F5 : RFm m M3 M5 := by rw [e5]; exact (RFm.st (Or.inr rfl)).tr (RFm.i (by decide))
  have a52 : mAI M5 52 = mAI M3 52 := by rw [e5, mAI_wI]; exact mAI_wAI_ne (by decide)
  have ops5 : St M5 52 29 0 (3 :: σ) := ops3.fr (by rw [e5]; simp [mNwI, mSwI, mKwI, mIwI, mJwI, mRwI, mLwI, mAIwI, mAJwI, mARwI, mNwJ, mSwJ, mKwJ, mIwJ, mJwJ, mRwJ, mLwJ, mAIwJ, mAJwJ, mARwJ, mNwR, mSwR, mKwR, mIwR, mJwR, mRwR, mLwR, mAIwR, mAJwR, mARwR, mNwAI, mSwAI, mKwAI, mIwAI, mJwAI, mRwAI, mLwAI, mAIwAI, mAJwAI, mARwAI, mNwAJ, mSwAJ, mKwAJ, mIwAJ, mJwAJ, mRwAJ, mLwAJ, mAIwAJ, mAJwAJ, mARwAJ, mNwAR, mSwAR, mKwAR, mIwAR, mJwAR, mRwAR, mLwAR, mAIwAR, mAJwAR, mARwAR, okkwI, okkwJ, okkwR, okkwAI, okkwAJ, okkwAR]) a52
  have x5 : XR M5 m (X ++ [(3, Int64.ofNat r, 0)]) := x3.fr (by rw [e5, mAI_wI]; exact mAI_wAI_ne (by decide)) (by rw [e5, mAI_wI]; exact mAI_wAI_ne (by decide)) (by rw [e5]; rfl) (by rw [e5, mAI_wI]; exact mAI_wAI_ne (by decide))
  have F7 : RFm m M5 M7 := by rw [e7]; exact (RFm.i (by decide)).tr (RFm.i (by decide))
  refine H M7 ?_ ((((F2.tr F3).tr F5)).tr F7)
  refine SR.opPop (M := M5) (x := 3) (c3.fr F5) hi ((g 5 (by decide)).trans R2.2.2.1) (R2.2.2.2.1.fr (g 6 (by decide)) (g 7 (by decide))) ops5 st5 x5 ⟨by rw [List.length_append]; show X.length + 1 + σ.length ≤ i; omega, by show ν.length + 1 ≤ i; omega, by omega, h10.2.2.2.1, fun y hy => ?_⟩ F7 (by rw [e7]; simp [mNwI, mSwI, mKwI, mIwI, mJwI, mRwI, mLwI, mAIwI, mAJwI, mARwI, mNwJ, mSwJ, mKwJ, mIwJ, mJwJ, mRwJ, mLwJ, mAIwJ, mAJwJ, mARwJ, mNwR, mSwR, mKwR, mIwR, mJwR, mRwR, mLwR, mAIwR, mAJwR, mARwR, mNwAI, mSwAI, mKwAI, mIwAI, mJwAI, mRwAI, mLwAI, mAIwAI, mAJwAI, mARwAI, mNwAJ, mSwAJ, mKwAJ, mIwAJ, mJwAJ, mRwAJ, mLwAJ, mAIwAJ, mAJwAJ, mARwAJ, mNwAR, mSwAR, mKwAR, mIwAR, mJwAR, mRwAR, mLwAR, mAIwAR, mAJwAR, mARwAR, okkwI, okkwJ, okkwR, okkwAI, okkwAJ, okkwAR]) (by rw [e7]; simp [mNwI, mSwI, mKwI, mIwI, mJwI, mRwI, mLwI, mAIwI, mAJwI, mARwI, mNwJ, mSwJ, mKwJ, mIwJ, mJwJ, mRwJ, mLwJ, mAIwJ, mAJwJ, mARwJ, mNwR, mSwR, mKwR, mIwR, mJwR, mRwR, mLwR, mAIwR, mAJwR, mARwR, mNwAI, mSwAI, mKwAI, mIwAI, mJwAI, mRwAI, mLwAI, mAIwAI, mAJwAI, mARwAI, mNwAJ, mSwAJ, mKwAJ, mIwAJ, mJwAJ, mRwAJ, mLwAJ, mAIwAJ, mAJwAJ, mARwAJ, mNwAR, mSwAR, mKwAR, mIwAR, mJwAR, mRwAR, mLwAR, mAIwAR, mAJwAR, mARwAR, okkwI, okkwJ, okkwR, okkwAI, okkwAJ, okkwAR]) (by rw [e7]; simp [mNwI, mSwI, mKwI, mIwI, mJwI, mRwI, mLwI, mAIwI, mAJwI, mARwI, mNwJ, mSwJ, mKwJ, mIwJ, mJwJ, mRwJ, mLwJ, mAIwJ, mAJwJ, mARwJ, mNwR, mSwR, mKwR, mIwR, mJwR, mRwR, mLwR, mAIwR, mAJwR, mARwR, mNwAI, mSwAI, mKwAI, mIwAI, mJwAI, mRwAI, mLwAI, mAIwAI, mAJwAI, mARwAI, mNwAJ, mSwAJ, mKwAJ, mIwAJ, mJwAJ, mRwAJ, mLwAJ, mAIwAJ, mAJwAJ, mARwAJ, mNwAR, mSwAR, mKwAR, mIwAR, mJwAR, mRwAR, mLwAR, mAIwAR, mAJwAR, mARwAR, okkwI, okkwJ, okkwR, okkwAI, okkwAJ, okkwAR]) (by rw [e7]; simp [mNwI, mSwI, mKwI, mIwI, mJwI, mRwI, mLwI, mAIwI, mAJwI, mARwI, mNwJ, mSwJ, mKwJ, mIwJ, mJwJ, mRwJ, mLwJ, mAIwJ, mAJwJ, mARwJ, mNwR, mSwR, mKwR, mIwR, mJwR, mRwR, mLwR, mAIwR, mAJwR, mARwR, mNwAI, mSwAI, mKwAI, mIwAI, mJwAI, mRwAI, mLwAI, mAIwAI, mAJwAI, mARwAI, mNwAJ, mSwAJ, mKwAJ, mIwAJ, mJwAJ, mRwAJ, mLwAJ, mAIwAJ, mAJwAJ, mARwAJ, mNwAR, mSwAR, mKwAR, mIwAR, mJwAR, mRwAR, mLwAR, mAIwAR, mAJwAR, mARwAR, okkwI, okkwJ, okkwR, okkwAI, okkwAJ, okkwAR]) (by rw [e7]; simp [mNwI, mSwI, mKwI, mIwI, mJwI, mRwI, mLwI, mAIwI, mAJwI, mARwI, mNwJ, mSwJ, mKwJ, mIwJ, mJwJ, mRwJ, mLwJ, mAIwJ, mAJwJ, mARwJ, mNwR, mSwR, mKwR, mIwR, mJwR, mRwR, mLwR, mAIwR, mAJwR, mARwR, mNwAI, mSwAI, mKwAI, mIwAI, mJwAI, mRwAI, mLwAI, mAIwAI, mAJwAI, mARwAI, mNwAJ, mSwAJ, mKwAJ, mIwAJ, mJwAJ, mRwAJ, mLwAJ, mAIwAJ, mAJwAJ, mARwAJ, mNwAR, mSwAR, mKwAR, mIwAR, mJwAR, mRwAR, mLwAR, mAIwAR, mAJwAR, mARwAR, okkwI, okkwJ, okkwR, okkwAI, okkwAJ, okkwAR]) (by rw [e7]; simp [mNwI, mSwI, mKwI, mIwI, mJwI, mRwI, mLwI, mAIwI, mAJwI, mARwI, mNwJ, mSwJ, mKwJ, mIwJ, mJwJ, mRwJ, mLwJ, mAIwJ, mAJwJ, mARwJ, mNwR, mSwR, mKwR, mIwR, mJwR, mRwR, mLwR, mAIwR, mAJwR, mARwR, mNwAI, mSwAI, mKwAI, mIwAI, mJwAI, mRwAI, mLwAI, mAIwAI, mAJwAI, mARwAI, mNwAJ, mSwAJ, mKwAJ, mIwAJ, mJwAJ, mRwAJ, mLwAJ, mAIwAJ, mAJwAJ, mARwAJ, mNwAR, mSwAR, mKwAR, mIwAR, mJwAR, mRwAR, mLwAR, mAIwAR, mAJwAR, mARwAR, okkwI, okkwJ, okkwR, okkwAI, okkwAJ, okkwAR]) (by rw [e7]; simp [g, R2.2.2.2.2.2.1, mNwI, mSwI, mKwI, mIwI, mJwI, mRwI, mLwI, mAIwI, mAJwI, mARwI, mNwJ, mSwJ, mKwJ, mIwJ, mJwJ, mRwJ, mLwJ, mAIwJ, mAJwJ, mARwJ, mNwR, mSwR, mKwR, mIwR, mJwR, mRwR, mLwR, mAIwR, mAJwR, mARwR, mNwAI, mSwAI, mKwAI, mIwAI, mJwAI, mRwAI, mLwAI, mAIwAI, mAJwAI, mARwAI, mNwAJ, mSwAJ, mKwAJ, mIwAJ, mJwAJ, mRwAJ, mLwAJ, mAIwAJ, mAJwAJ, mARwAJ, mNwAR, mSwAR, mKwAR, mIwAR, mJwAR, mRwAR, mLwAR, mAIwAR, mAJwAR, mARwAR, okkwI, okkwJ, okkwR, okkwAI, okkwAJ, okkwAR]) (by rw [e7]; rfl) (by rw [e7]; rfl)
  rw [List.length_append]
  show y < X.length + 1
  rcases List.mem_cons.mp hy with q | q
  · omega
  · have := h10.2.2.2.2 y (List.mem_cons_of_mem _ q)
    omega
theorem neg15 {σ0 ν0 : List Nat} (ht : top? σ0 (fun x => x ≠ 3)) (h100 : ∀ x ∈ σ0, x < 100) : ∀ (k : Nat) (M : Mem) (i o r : Nat) (X : List Nd), SR b n s m sN ro mx vN w M i (o + k) pr (List.replicate k 3 ++ σ0) (r :: ν0) X → (∀ M', SR b n s m sN ro mx vN w M' i o pr σ0 ((ng k r X).1 :: ν0) (ng k r X).2 → RFm m M M' → Q none M') → T (h + 2) mdX11_sumOperand 15 [(0, .ref 29)] [] M Q := by
  intro k
  induction k with
  | zero =>
    intro M i o r X hR H
    have hR : SR b n s m sN ro mx vN w M i o pr σ0 (r :: ν0) X := by simpa using hR
    have HQ := H M hR RFm.rf
    have F := hR.1.1
    have hi := hR.2.1
    have h7 := hR.2.2.2.2.2.2.1
    have h10 := hR.2.2.2.2.2.2.2.2.2
    refine VX11_sumOperand_15 ?_
    unfold DX11_sumOperand_15 DX11_sumOperand_75
    rw [h7.1]
    cases σ0 with
    | nil => exact ⟨ok29 F, fun _ => HQ, fun hc => absurd (by decide) hc⟩
    | cons x σ =>
      have hl : σ.length + 1 ≤ i := by
        have := h10.1
        simp only [List.length_cons] at this
        omega
      have tp := h7.top
      rw [Nat.zero_add] at tp
      have hx := h100 x List.mem_cons_self
      rw [show Int32.ofNat (x :: σ).length - 1 = Int32.ofNat σ.length from sub32 (c := 1) (a := σ.length + 1) (by omega) (by omega), lt32 (by omega)]
      refine ⟨ok29 F, fun _ => HQ, fun _ => ⟨52, rf29_28 F, ok52 F, by rw [ln52 F]; exact vp_of (by omega) (by decide), fun _ => HQ, fun q => ?_⟩⟩
      rw [tp] at q
      exact absurd (inj32 (b := 3) (by omega) (by decide) q) ht
  | succ k ih =>
    intro M i o r X hR H
    have hR : SR b n s m sN ro mx vN w M i (o + k + 1) pr (3 :: (List.replicate k 3 ++ σ0)) (r :: ν0) X := hR
    have F := hR.1.1
    have hi := hR.2.1
    have h7 := hR.2.2.2.2.2.2.1
    have h10 := hR.2.2.2.2.2.2.2.2.2
    have ihk := ih
    clear ih
    generalize hS : List.replicate k 3 ++ σ0 = S at hR h7 h10
    have hl : X.length + (S.length + 1) ≤ i := h10.1
    have e29 : mI M 29 29 = Int32.ofNat (S.length + 1) := h7.1
    have e1 : Int32.ofNat (S.length + 1) - 1 = Int32.ofNat S.length := sub32 (c := 1) (by omega) (by omega)
    have tp := h7.top
    rw [Nat.zero_add] at tp
    refine VX11_sumOperand_15 ?_
    unfold DX11_sumOperand_15
    rw [e29, e1, lt32 (by omega)]
    refine ⟨ok29 F, fun hc => ?_, fun _ => ⟨52, rf29_28 F, ok52 F, by rw [ln52 F]; exact vp_of (by omega) (by decide), fun hc => ?_, fun _ => ?_⟩⟩
    · exact absurd ((le32 (b := 0) (by omega) (by decide)).mp hc) (by omega)
    · rw [tp] at hc; exact absurd rfl hc
    · refine neg_body hR (fun M1 R1 F1 => ihk M1 i o X.length (X ++ [(3, Int64.ofNat r, 0)]) (by rw [hS]; exact R1) (fun M' R' F' => H M' R' (F1.tr F')))
theorem neg199 {σ0 ν0 : List Nat} {x1 x2 : Int32} (ht : top? σ0 (fun x => x ≠ 3)) (h100 : ∀ x ∈ σ0, x < 100) : ∀ (k : Nat) (M : Mem) (i o r : Nat) (X : List Nd), SR b n s m sN ro mx vN w M i (o + k) pr (List.replicate k 3 ++ σ0) (r :: ν0) X → (∀ M', SR b n s m sN ro mx vN w M' i o pr σ0 ((ng k r X).1 :: ν0) (ng k r X).2 → RFm m M M' → T (h + 2) mdX11_readSum 19 [(0, .ref 29), (1, .int x1), (2, .int x2)] [] M' Q) → T (h + 2) mdX11_readSum 199 [(0, .ref 29), (1, .int x1), (2, .int x2)] [] M Q := by
  intro k
  induction k with
  | zero =>
    intro M i o r X hR H
    have hR : SR b n s m sN ro mx vN w M i o pr σ0 (r :: ν0) X := by simpa using hR
    have HQ := H M hR RFm.rf
    have F := hR.1.1
    have hi := hR.2.1
    have h7 := hR.2.2.2.2.2.2.1
    have h10 := hR.2.2.2.2.2.2.2.2.2
    refine VX11_readSum_199 ?_
    unfold DX11_readSum_199
    rw [h7.1]
    cases σ0 with
    | nil => exact ⟨ok29 F, fun _ => HQ, fun hc => absurd (by decide) hc⟩
    | cons x σ =>
      have hl : σ.length + 1 ≤ i := by
        have := h10.1
        simp only [List.length_cons] at this
        omega
      have tp := h7.top
      rw [Nat.zero_add] at tp
      have hx := h100 x List.mem_cons_self
      rw [show Int32.ofNat (x :: σ).length - 1 = Int32.ofNat σ.length from sub32 (c := 1) (a := σ.length + 1) (by omega) (by omega), lt32 (by omega)]
      refine ⟨ok29 F, fun _ => HQ, fun _ => ⟨52, rf29_28 F, ok52 F, by rw [ln52 F]; exact vp_of (by omega) (by decide), fun _ => HQ, fun q => ?_⟩⟩
      rw [tp] at q
      exact absurd (inj32 (b := 3) (by omega) (by decide) q) ht
  | succ k ih =>
    intro M i o r X hR H
    have hR : SR b n s m sN ro mx vN w M i (o + k + 1) pr (3 :: (List.replicate k 3 ++ σ0)) (r :: ν0) X := hR
    have F := hR.1.1
    have hi := hR.2.1
    have h7 := hR.2.2.2.2.2.2.1
    have h10 := hR.2.2.2.2.2.2.2.2.2
    have ihk := ih
    clear ih
    generalize hS : List.replicate k 3 ++ σ0 = S at hR h7 h10
    have hl : X.length + (S.length + 1) ≤ i := h10.1
    have e29 : mI M 29 29 = Int32.ofNat (S.length + 1) := h7.1
    have e1 : Int32.ofNat (S.length + 1) - 1 = Int32.ofNat S.length := sub32 (c := 1) (by omega) (by omega)
    have tp := h7.top
    rw [Nat.zero_add] at tp
    refine VX11_readSum_199 ?_
    unfold DX11_readSum_199
    rw [e29, e1, lt32 (by omega)]
    refine ⟨ok29 F, fun hc => ?_, fun _ => ⟨52, rf29_28 F, ok52 F, by rw [ln52 F]; exact vp_of (by omega) (by decide), fun hc => ?_, fun _ => ?_⟩⟩
    · exact absurd ((le32 (b := 0) (by omega) (by decide)).mp hc) (by omega)
    · rw [tp] at hc; exact absurd rfl hc
    · refine neg_body hR (fun M1 R1 F1 => ihk M1 i o X.length (X ++ [(3, Int64.ofNat r, 0)]) (by rw [hS]; exact R1) (fun M' R' F' => H M' R' (F1.tr F')))
/-! taking a token -/
theorem B_take {M : Mem} {i o : Nat} {σ ν : List Nat} {X : List Nd} (h1 : CoR b n s m sN ro mx vN M) (hi : n ≤ 800 ∧ s ≤ n ∧ i < s) (h3 : mI M 29 5 = Int32.ofNat i) (h4 : mI M 29 6 = 0) (h5 : mI M 29 33 = Int32.ofNat o) (h6 : mI M 29 32 = Int32.ofNat pr) (h7 : St M 52 29 0 σ) (h8 : St M 53 31 (810 * m) ν) (h9 : XR M m X) (h10 : X.length + σ.length ≤ i + 1 ∧ ν.length ≤ i + 1 ∧ o ≤ 15 ∧ pr ≤ i + 1 ∧ ∀ x ∈ ν, x < X.length) (hB : By b) (H1 : tK b n (i + 1) ≠ 0 → ∀ M', SR b n s m sN ro mx vN (0, 0) M' (i + 1) o pr σ ν X → RFm m M M' → Q none M') (H0 : tK b n (i + 1) = 0 → ∀ M', SR b n s m sN ro mx vN (1, Int32.ofNat (tP b n (i + 1))) M' (i + 1) o pr σ ν X → RFm m M M' → Q none M') : E (h + 2) mdX11_take [.ref 29] M Q := by
  have F := h1.1
  have e : mI M 29 5 + 1 = Int32.ofNat (i + 1) := by rw [h3, succ32]
  refine R_take F (by rw [e]; exact vp_of (by omega) (by decide)) ?_
  unfold takF
  rw [e, lt32 (by omega)]
  obtain ⟨r1, r2, r3⟩ := h1.2.1 (i + 1) (by omega)
  have rel : rS b n (tP b n (i + 1)) = 4 ↔ tK b n (i + 1) = 0 := (rS_rel hB).2
  have fr : RFm m M (wI M 29 5 (Int32.ofNat (i + 1))) := RFm.i (by decide)
  by_cases hk : tK b n (i + 1) = 0
  · rw [if_pos (r1.trans (rel.mpr hk)), r2]
    have e2 : flF (wI M 29 5 (Int32.ofNat (i + 1))) 1 (Int32.ofNat (tP b n (i + 1))) = wI (wI (wI M 29 5 (Int32.ofNat (i + 1))) 29 6 1) 29 7 (Int32.ofNat (tP b n (i + 1))) := by
      unfold flF; rw [if_pos (by simp [h4, mNwI, mSwI, mKwI, mIwI, mJwI, mRwI, mLwI, mAIwI, mAJwI, mARwI, mNwJ, mSwJ, mKwJ, mIwJ, mJwJ, mRwJ, mLwJ, mAIwJ, mAJwJ, mARwJ, mNwR, mSwR, mKwR, mIwR, mJwR, mRwR, mLwR, mAIwR, mAJwR, mARwR, mNwAI, mSwAI, mKwAI, mIwAI, mJwAI, mRwAI, mLwAI, mAIwAI, mAJwAI, mARwAI, mNwAJ, mSwAJ, mKwAJ, mIwAJ, mJwAJ, mRwAJ, mLwAJ, mAIwAJ, mAJwAJ, mARwAJ, mNwAR, mSwAR, mKwAR, mIwAR, mJwAR, mRwAR, mLwAR, mAIwAR, mAJwAR, mARwAR, okkwI, okkwJ, okkwR, okkwAI, okkwAJ, okkwAR])]
    rw [e2]
    have fr2 : RFm m M (wI (wI (wI M 29 5 (Int32.ofNat (i + 1))) 29 6 1) 29 7 (Int32.ofNat (tP b n (i + 1)))) := (fr.tr (RFm.i (by decide))).tr (RFm.i (by decide))
    exact H0 hk _ ⟨h1.fr fr2, ⟨hi.1, hi.2.1, hi.2.2⟩, by simp [mNwI, mSwI, mKwI, mIwI, mJwI, mRwI, mLwI, mAIwI, mAJwI, mARwI, mNwJ, mSwJ, mKwJ, mIwJ, mJwJ, mRwJ, mLwJ, mAIwJ, mAJwJ, mARwJ, mNwR, mSwR, mKwR, mIwR, mJwR, mRwR, mLwR, mAIwR, mAJwR, mARwR, mNwAI, mSwAI, mKwAI, mIwAI, mJwAI, mRwAI, mLwAI, mAIwAI, mAJwAI, mARwAI, mNwAJ, mSwAJ, mKwAJ, mIwAJ, mJwAJ, mRwAJ, mLwAJ, mAIwAJ, mAJwAJ, mARwAJ, mNwAR, mSwAR, mKwAR, mIwAR, mJwAR, mRwAR, mLwAR, mAIwAR, mAJwAR, mARwAR, okkwI, okkwJ, okkwR, okkwAI, okkwAJ, okkwAR], ⟨by simp [mNwI, mSwI, mKwI, mIwI, mJwI, mRwI, mLwI, mAIwI, mAJwI, mARwI, mNwJ, mSwJ, mKwJ, mIwJ, mJwJ, mRwJ, mLwJ, mAIwJ, mAJwJ, mARwJ, mNwR, mSwR, mKwR, mIwR, mJwR, mRwR, mLwR, mAIwR, mAJwR, mARwR, mNwAI, mSwAI, mKwAI, mIwAI, mJwAI, mRwAI, mLwAI, mAIwAI, mAJwAI, mARwAI, mNwAJ, mSwAJ, mKwAJ, mIwAJ, mJwAJ, mRwAJ, mLwAJ, mAIwAJ, mAJwAJ, mARwAJ, mNwAR, mSwAR, mKwAR, mIwAR, mJwAR, mRwAR, mLwAR, mAIwAR, mAJwAR, mARwAR, okkwI, okkwJ, okkwR, okkwAI, okkwAJ, okkwAR], Or.inr (by simp [mNwI, mSwI, mKwI, mIwI, mJwI, mRwI, mLwI, mAIwI, mAJwI, mARwI, mNwJ, mSwJ, mKwJ, mIwJ, mJwJ, mRwJ, mLwJ, mAIwJ, mAJwJ, mARwJ, mNwR, mSwR, mKwR, mIwR, mJwR, mRwR, mLwR, mAIwR, mAJwR, mARwR, mNwAI, mSwAI, mKwAI, mIwAI, mJwAI, mRwAI, mLwAI, mAIwAI, mAJwAI, mARwAI, mNwAJ, mSwAJ, mKwAJ, mIwAJ, mJwAJ, mRwAJ, mLwAJ, mAIwAJ, mAJwAJ, mARwAJ, mNwAR, mSwAR, mKwAR, mIwAR, mJwAR, mRwAR, mLwAR, mAIwAR, mAJwAR, mARwAR, okkwI, okkwJ, okkwR, okkwAI, okkwAJ, okkwAR])⟩, by simp [h5, mNwI, mSwI, mKwI, mIwI, mJwI, mRwI, mLwI, mAIwI, mAJwI, mARwI, mNwJ, mSwJ, mKwJ, mIwJ, mJwJ, mRwJ, mLwJ, mAIwJ, mAJwJ, mARwJ, mNwR, mSwR, mKwR, mIwR, mJwR, mRwR, mLwR, mAIwR, mAJwR, mARwR, mNwAI, mSwAI, mKwAI, mIwAI, mJwAI, mRwAI, mLwAI, mAIwAI, mAJwAI, mARwAI, mNwAJ, mSwAJ, mKwAJ, mIwAJ, mJwAJ, mRwAJ, mLwAJ, mAIwAJ, mAJwAJ, mARwAJ, mNwAR, mSwAR, mKwAR, mIwAR, mJwAR, mRwAR, mLwAR, mAIwAR, mAJwAR, mARwAR, okkwI, okkwJ, okkwR, okkwAI, okkwAJ, okkwAR], by simp [h6, mNwI, mSwI, mKwI, mIwI, mJwI, mRwI, mLwI, mAIwI, mAJwI, mARwI, mNwJ, mSwJ, mKwJ, mIwJ, mJwJ, mRwJ, mLwJ, mAIwJ, mAJwJ, mARwJ, mNwR, mSwR, mKwR, mIwR, mJwR, mRwR, mLwR, mAIwR, mAJwR, mARwR, mNwAI, mSwAI, mKwAI, mIwAI, mJwAI, mRwAI, mLwAI, mAIwAI, mAJwAI, mARwAI, mNwAJ, mSwAJ, mKwAJ, mIwAJ, mJwAJ, mRwAJ, mLwAJ, mAIwAJ, mAJwAJ, mARwAJ, mNwAR, mSwAR, mKwAR, mIwAR, mJwAR, mRwAR, mLwAR, mAIwAR, mAJwAR, mARwAR, okkwI, okkwJ, okkwR, okkwAI, okkwAJ, okkwAR], h7.fr (by simp [mNwI, mSwI, mKwI, mIwI, mJwI, mRwI, mLwI, mAIwI, mAJwI, mARwI, mNwJ, mSwJ, mKwJ, mIwJ, mJwJ, mRwJ, mLwJ, mAIwJ, mAJwJ, mARwJ, mNwR, mSwR, mKwR, mIwR, mJwR, mRwR, mLwR, mAIwR, mAJwR, mARwR, mNwAI, mSwAI, mKwAI, mIwAI, mJwAI, mRwAI, mLwAI, mAIwAI, mAJwAI, mARwAI, mNwAJ, mSwAJ, mKwAJ, mIwAJ, mJwAJ, mRwAJ, mLwAJ, mAIwAJ, mAJwAJ, mARwAJ, mNwAR, mSwAR, mKwAR, mIwAR, mJwAR, mRwAR, mLwAR, mAIwAR, mAJwAR, mARwAR, okkwI, okkwJ, okkwR, okkwAI, okkwAJ, okkwAR]) rfl, h8.fr (by simp [mNwI, mSwI, mKwI, mIwI, mJwI, mRwI, mLwI, mAIwI, mAJwI, mARwI, mNwJ, mSwJ, mKwJ, mIwJ, mJwJ, mRwJ, mLwJ, mAIwJ, mAJwJ, mARwJ, mNwR, mSwR, mKwR, mIwR, mJwR, mRwR, mLwR, mAIwR, mAJwR, mARwR, mNwAI, mSwAI, mKwAI, mIwAI, mJwAI, mRwAI, mLwAI, mAIwAI, mAJwAI, mARwAI, mNwAJ, mSwAJ, mKwAJ, mIwAJ, mJwAJ, mRwAJ, mLwAJ, mAIwAJ, mAJwAJ, mARwAJ, mNwAR, mSwAR, mKwAR, mIwAR, mJwAR, mRwAR, mLwAR, mAIwAR, mAJwAR, mARwAR, okkwI, okkwJ, okkwR, okkwAI, okkwAJ, okkwAR]) rfl, h9.fr rfl rfl rfl rfl, h10⟩ fr2
  · rw [if_neg (fun z => hk (rel.mp (r1.symm.trans z)))]
    refine H1 hk _ ⟨h1.fr fr, ⟨hi.1, hi.2.1, hi.2.2⟩, by simp [mNwI, mSwI, mKwI, mIwI, mJwI, mRwI, mLwI, mAIwI, mAJwI, mARwI, mNwJ, mSwJ, mKwJ, mIwJ, mJwJ, mRwJ, mLwJ, mAIwJ, mAJwJ, mARwJ, mNwR, mSwR, mKwR, mIwR, mJwR, mRwR, mLwR, mAIwR, mAJwR, mARwR, mNwAI, mSwAI, mKwAI, mIwAI, mJwAI, mRwAI, mLwAI, mAIwAI, mAJwAI, mARwAI, mNwAJ, mSwAJ, mKwAJ, mIwAJ, mJwAJ, mRwAJ, mLwAJ, mAIwAJ, mAJwAJ, mARwAJ, mNwAR, mSwAR, mKwAR, mIwAR, mJwAR, mRwAR, mLwAR, mAIwAR, mAJwAR, mARwAR, okkwI, okkwJ, okkwR, okkwAI, okkwAJ, okkwAR], ⟨by simp [h4, mNwI, mSwI, mKwI, mIwI, mJwI, mRwI, mLwI, mAIwI, mAJwI, mARwI, mNwJ, mSwJ, mKwJ, mIwJ, mJwJ, mRwJ, mLwJ, mAIwJ, mAJwJ, mARwJ, mNwR, mSwR, mKwR, mIwR, mJwR, mRwR, mLwR, mAIwR, mAJwR, mARwR, mNwAI, mSwAI, mKwAI, mIwAI, mJwAI, mRwAI, mLwAI, mAIwAI, mAJwAI, mARwAI, mNwAJ, mSwAJ, mKwAJ, mIwAJ, mJwAJ, mRwAJ, mLwAJ, mAIwAJ, mAJwAJ, mARwAJ, mNwAR, mSwAR, mKwAR, mIwAR, mJwAR, mRwAR, mLwAR, mAIwAR, mAJwAR, mARwAR, okkwI, okkwJ, okkwR, okkwAI, okkwAJ, okkwAR], Or.inl rfl⟩, by simp [h5, mNwI, mSwI, mKwI, mIwI, mJwI, mRwI, mLwI, mAIwI, mAJwI, mARwI, mNwJ, mSwJ, mKwJ, mIwJ, mJwJ, mRwJ, mLwJ, mAIwJ, mAJwJ, mARwJ, mNwR, mSwR, mKwR, mIwR, mJwR, mRwR, mLwR, mAIwR, mAJwR, mARwR, mNwAI, mSwAI, mKwAI, mIwAI, mJwAI, mRwAI, mLwAI, mAIwAI, mAJwAI, mARwAI, mNwAJ, mSwAJ, mKwAJ, mIwAJ, mJwAJ, mRwAJ, mLwAJ, mAIwAJ, mAJwAJ, mARwAJ, mNwAR, mSwAR, mKwAR, mIwAR, mJwAR, mRwAR, mLwAR, mAIwAR, mAJwAR, mARwAR, okkwI, okkwJ, okkwR, okkwAI, okkwAJ, okkwAR], by simp [h6, mNwI, mSwI, mKwI, mIwI, mJwI, mRwI, mLwI, mAIwI, mAJwI, mARwI, mNwJ, mSwJ, mKwJ, mIwJ, mJwJ, mRwJ, mLwJ, mAIwJ, mAJwJ, mARwJ, mNwR, mSwR, mKwR, mIwR, mJwR, mRwR, mLwR, mAIwR, mAJwR, mARwR, mNwAI, mSwAI, mKwAI, mIwAI, mJwAI, mRwAI, mLwAI, mAIwAI, mAJwAI, mARwAI, mNwAJ, mSwAJ, mKwAJ, mIwAJ, mJwAJ, mRwAJ, mLwAJ, mAIwAJ, mAJwAJ, mARwAJ, mNwAR, mSwAR, mKwAR, mIwAR, mJwAR, mRwAR, mLwAR, mAIwAR, mAJwAR, mARwAR, okkwI, okkwJ, okkwR, okkwAI, okkwAJ, okkwAR], h7.fr (by simp [mNwI, mSwI, mKwI, mIwI, mJwI, mRwI, mLwI, mAIwI, mAJwI, mARwI, mNwJ, mSwJ, mKwJ, mIwJ, mJwJ, mRwJ, mLwJ, mAIwJ, mAJwJ, mARwJ, mNwR, mSwR, mKwR, mIwR, mJwR, mRwR, mLwR, mAIwR, mAJwR, mARwR, mNwAI, mSwAI, mKwAI, mIwAI, mJwAI, mRwAI, mLwAI, mAIwAI, mAJwAI, mARwAI, mNwAJ, mSwAJ, mKwAJ, mIwAJ, mJwAJ, mRwAJ, mLwAJ, mAIwAJ, mAJwAJ, mARwAJ, mNwAR, mSwAR, mKwAR, mIwAR, mJwAR, mRwAR, mLwAR, mAIwAR, mAJwAR, mARwAR, okkwI, okkwJ, okkwR, okkwAI, okkwAJ, okkwAR]) rfl, h8.fr (by simp [mNwI, mSwI, mKwI, mIwI, mJwI, mRwI, mLwI, mAIwI, mAJwI, mARwI, mNwJ, mSwJ, mKwJ, mIwJ, mJwJ, mRwJ, mLwJ, mAIwJ, mAJwJ, mARwJ, mNwR, mSwR, mKwR, mIwR, mJwR, mRwR, mLwR, mAIwR, mAJwR, mARwR, mNwAI, mSwAI, mKwAI, mIwAI, mJwAI, mRwAI, mLwAI, mAIwAI, mAJwAI, mARwAI, mNwAJ, mSwAJ, mKwAJ, mIwAJ, mJwAJ, mRwAJ, mLwAJ, mAIwAJ, mAJwAJ, mARwAJ, mNwAR, mSwAR, mKwAR, mIwAR, mJwAR, mRwAR, mLwAR, mAIwAR, mAJwAR, mARwAR, okkwI, okkwJ, okkwR, okkwAI, okkwAJ, okkwAR]) rfl, h9.fr rfl rfl rfl rfl, h10⟩ fr
theorem SR.x {f : Int32} {p i o : Nat} {M : Mem} {σ ν : List Nat} {X : List Nd} (h : SR b n s m sN ro mx vN (f, Int32.ofNat p) M i o pr σ ν X) (hf : 0 < f) : TXr M f p := ⟨h.1.1, h.2.2.2.1.1, hf, h.2.2.2.1.2.resolve_left (fun z => by
  have z : f = 0 := z
  rw [z] at hf
  exact absurd hf (by decide))⟩
end
end
section
/-! the reference reads sums: opening, operators, operands -/
section
variable {b : Nat → Int32} {n s m : Nat} {sN : List Int64} {ro mx : List Int32} {vN : List Int64} {M : Mem} {i o pr : Nat} {σ ν : List Nat} {X : List Nd} {h : Nat} {Q : Option Value → Mem → Prop}
theorem SR.tok (hR : SR b n s m sN ro mx vN (0, 0) M i o pr σ ν X) : RkR M b n i ∧ mI M 29 5 = Int32.ofNat i ∧ i < 802 := ⟨hR.1.2.1 i hR.2.1.2.2, hR.2.2.1, by have := hR.2.1; omega⟩
theorem B_said {k : Int32} {v : Int64} (hR : SR b n s m sN ro mx vN (0, 0) M i o pr σ ν X) (hB : By b) (hk : k ∈ sKs) (hv : v = sv k) (H : Q (some (.int (if tK b n i = k then 1 else 0))) M) : E (h + 1) mdX11_isSaid [.ref 29, .int 3, .long v] M Q := by
  obtain ⟨⟨r1, r2, r3⟩, h5, h8⟩ := hR.tok
  refine R_isSaid hR.1.1 h5 h8 ?_
  rw [r1, r3, hv]
  have e := said_sign (b := b) (n := n) (p := tP b n i) hB hk
  have eK : tK b n i = ckK b n (tP b n i) := rfl
  rw [eK] at H
  by_cases q : ckK b n (tP b n i) = k
  · rw [if_pos q] at H; rw [if_pos (e.mpr q)]; exact H
  · rw [if_neg q] at H; rw [if_neg (fun z => q (e.mp z))]; exact H
theorem B_fails {c : Int32} (hR : SR b n s m sN ro mx vN (0, 0) M i o pr σ ν X) (hc : 0 < c) (H : ∀ M', TXr M' c (tP b n i) → RFm m M M' → Q none M') : E (h + 1) mdX11_fails [.ref 29, .int c, .int (mAI M 32 i)] M Q := by
  obtain ⟨⟨r1, r2, r3⟩, h5, h8⟩ := hR.tok
  have h6 : mI M 29 6 = 0 := hR.2.2.2.1.1
  refine R_fails hR.1.1 ?_
  have e : flF M c (mAI M 32 i) = wI (wI M 29 6 c) 29 7 (Int32.ofNat (tP b n i)) := by unfold flF; rw [if_pos h6, r2]
  rw [e]
  have fr : RFm m M (wI (wI M 29 6 c) 29 7 (Int32.ofNat (tP b n i))) := (RFm.i (by decide)).tr (RFm.i (by decide))
  exact H _ ⟨fr.fix hR.1.1, by simp [mNwI, mSwI, mKwI, mIwI, mJwI, mRwI, mLwI, mAIwI, mAJwI, mARwI, mNwJ, mSwJ, mKwJ, mIwJ, mJwJ, mRwJ, mLwJ, mAIwJ, mAJwJ, mARwJ, mNwR, mSwR, mKwR, mIwR, mJwR, mRwR, mLwR, mAIwR, mAJwR, mARwR, mNwAI, mSwAI, mKwAI, mIwAI, mJwAI, mRwAI, mLwAI, mAIwAI, mAJwAI, mARwAI, mNwAJ, mSwAJ, mKwAJ, mIwAJ, mJwAJ, mRwAJ, mLwAJ, mAIwAJ, mAJwAJ, mARwAJ, mNwAR, mSwAR, mKwAR, mIwAR, mJwAR, mRwAR, mLwAR, mAIwAR, mAJwAR, mARwAR, okkwI, okkwJ, okkwR, okkwAI, okkwAJ, okkwAR], hc, by simp [mNwI, mSwI, mKwI, mIwI, mJwI, mRwI, mLwI, mAIwI, mAJwI, mARwI, mNwJ, mSwJ, mKwJ, mIwJ, mJwJ, mRwJ, mLwJ, mAIwJ, mAJwJ, mARwJ, mNwR, mSwR, mKwR, mIwR, mJwR, mRwR, mLwR, mAIwR, mAJwR, mARwR, mNwAI, mSwAI, mKwAI, mIwAI, mJwAI, mRwAI, mLwAI, mAIwAI, mAJwAI, mARwAI, mNwAJ, mSwAJ, mKwAJ, mIwAJ, mJwAJ, mRwAJ, mLwAJ, mAIwAJ, mAJwAJ, mARwAJ, mNwAR, mSwAR, mKwAR, mIwAR, mJwAR, mRwAR, mLwAR, mAIwAR, mAJwAR, mARwAR, okkwI, okkwJ, okkwR, okkwAI, okkwAJ, okkwAR]⟩ fr
theorem B_opening {op : Nat} (hR : SR b n s m sN ro mx vN (0, 0) M i o pr σ ν X) (hB : By b) (hs : i < s) (hop : op = 3 ∨ op = 9) (H1 : o < 15 → tK b n (i + 1) ≠ 0 → ∀ M', SR b n s m sN ro mx vN (0, 0) M' (i + 1) (o + 1) (pr + (if op = 9 then 1 else 0)) (op :: σ) ν X → RFm m M M' → Q none M') (H0 : o < 15 → tK b n (i + 1) = 0 → ∀ M', TXr M' 1 (tP b n (i + 1)) → RFm m M M' → Q none M') (H6 : o = 15 → ∀ M', TXr M' 6 (tP b n i) → RFm m M M' → Q none M') : E (h + 3) mdX11_opening [.ref 29, .int (Int32.ofNat op)] M Q := by
  obtain ⟨h1, h2, h3, h4, h5, h6, h7, h8, h9, h10⟩ := id hR
  have F := h1.1
  refine KX11_opening ?_
  unfold DX11_opening_0 DX11_opening_73 DX11_opening_78 DX11_opening_86
  rw [h5, succ32]
  have e15 : (Int32.ofNat o = 15) ↔ o = 15 := ⟨fun z => inj32 (b := 15) (by omega) (by decide) z, fun z => by rw [z]; rfl⟩
  refine ⟨ok29 F, fun hc => ?_, fun hc => ?_⟩
  · have ho : o < 15 := by
      have : o ≠ 15 := fun z => hc (e15.mpr z)
      have := h10.2.2.1
      omega
    intro A a
    have FA : Fix A := by rw [a]; exact F.i
    have iA : mI A 29 29 = Int32.ofNat σ.length := by rw [a]; simp [h7.1, mNwI, mSwI, mKwI, mIwI, mJwI, mRwI, mLwI, mAIwI, mAJwI, mARwI, mNwJ, mSwJ, mKwJ, mIwJ, mJwJ, mRwJ, mLwJ, mAIwJ, mAJwJ, mARwJ, mNwR, mSwR, mKwR, mIwR, mJwR, mRwR, mLwR, mAIwR, mAJwR, mARwR, mNwAI, mSwAI, mKwAI, mIwAI, mJwAI, mRwAI, mLwAI, mAIwAI, mAJwAI, mARwAI, mNwAJ, mSwAJ, mKwAJ, mIwAJ, mJwAJ, mRwAJ, mLwAJ, mAIwAJ, mAJwAJ, mARwAJ, mNwAR, mSwAR, mKwAR, mIwAR, mJwAR, mRwAR, mLwAR, mAIwAR, mAJwAR, mARwAR, okkwI, okkwJ, okkwR, okkwAI, okkwAJ, okkwAR]
    rw [iA, lt32 (by omega)]
    refine ⟨52, rf29_28 FA, ok52 FA, by rw [ln52 FA]; exact vp_of (by omega) (by decide), fun B bb C c => ?_⟩
    have iB : mI B 29 29 = Int32.ofNat σ.length := by rw [bb, mI_wAI]; exact iA
    rw [iB, succ32] at c
    have iC : mI C 29 32 = Int32.ofNat pr := by rw [c, bb, a]; simp [h6, mNwI, mSwI, mKwI, mIwI, mJwI, mRwI, mLwI, mAIwI, mAJwI, mARwI, mNwJ, mSwJ, mKwJ, mIwJ, mJwJ, mRwJ, mLwJ, mAIwJ, mAJwJ, mARwJ, mNwR, mSwR, mKwR, mIwR, mJwR, mRwR, mLwR, mAIwR, mAJwR, mARwR, mNwAI, mSwAI, mKwAI, mIwAI, mJwAI, mRwAI, mLwAI, mAIwAI, mAJwAI, mARwAI, mNwAJ, mSwAJ, mKwAJ, mIwAJ, mJwAJ, mRwAJ, mLwAJ, mAIwAJ, mAJwAJ, mARwAJ, mNwAR, mSwAR, mKwAR, mIwAR, mJwAR, mRwAR, mLwAR, mAIwAR, mAJwAR, mARwAR, okkwI, okkwJ, okkwR, okkwAI, okkwAJ, okkwAR]
    have FC : Fix C := by rw [c, bb, a]; exact F.i.ai.i
    have frC : RFm m M C := by rw [c, bb, a]; exact ((RFm.i (by decide)).tr (RFm.st (Or.inl rfl))).tr (RFm.i (by decide))
    have stC : St C 52 29 0 (op :: σ) := (h7.fr (M' := A) (by rw [a]; simp [mNwI, mSwI, mKwI, mIwI, mJwI, mRwI, mLwI, mAIwI, mAJwI, mARwI, mNwJ, mSwJ, mKwJ, mIwJ, mJwJ, mRwJ, mLwJ, mAIwJ, mAJwJ, mARwJ, mNwR, mSwR, mKwR, mIwR, mJwR, mRwR, mLwR, mAIwR, mAJwR, mARwR, mNwAI, mSwAI, mKwAI, mIwAI, mJwAI, mRwAI, mLwAI, mAIwAI, mAJwAI, mARwAI, mNwAJ, mSwAJ, mKwAJ, mIwAJ, mJwAJ, mRwAJ, mLwAJ, mAIwAJ, mAJwAJ, mARwAJ, mNwAR, mSwAR, mKwAR, mIwAR, mJwAR, mRwAR, mLwAR, mAIwAR, mAJwAR, mARwAR, okkwI, okkwJ, okkwR, okkwAI, okkwAJ, okkwAR]) (by rw [a]; rfl)).push (x := op) (by rw [c, bb, Nat.zero_add])
    have fin : ∀ (D : Mem) (q : Nat), q ≤ 1 → D = wI C 29 32 (Int32.ofNat pr + Int32.ofNat q) → (if op = 9 then 1 else 0) = q → ok D 29 13 ∧ E (h + 2) mdX11_take [.ref 29] D (fun r M4 => mE D M4 → r = none ∧ Q none M4) := by
      intro D q hq d eq
      rw [add32] at d
      have frD : RFm m M D := by rw [d]; exact frC.tr (RFm.i (by decide))
      refine ⟨ok29 (frD.fix F), B_take (pr := pr + q) (o := o + 1) (σ := op :: σ) (ν := ν) (X := X) (h1.fr frD) ⟨h2.1, h2.2.1, hs⟩ (by rw [d, c, bb, a]; simp [h3, mNwI, mSwI, mKwI, mIwI, mJwI, mRwI, mLwI, mAIwI, mAJwI, mARwI, mNwJ, mSwJ, mKwJ, mIwJ, mJwJ, mRwJ, mLwJ, mAIwJ, mAJwJ, mARwJ, mNwR, mSwR, mKwR, mIwR, mJwR, mRwR, mLwR, mAIwR, mAJwR, mARwR, mNwAI, mSwAI, mKwAI, mIwAI, mJwAI, mRwAI, mLwAI, mAIwAI, mAJwAI, mARwAI, mNwAJ, mSwAJ, mKwAJ, mIwAJ, mJwAJ, mRwAJ, mLwAJ, mAIwAJ, mAJwAJ, mARwAJ, mNwAR, mSwAR, mKwAR, mIwAR, mJwAR, mRwAR, mLwAR, mAIwAR, mAJwAR, mARwAR, okkwI, okkwJ, okkwR, okkwAI, okkwAJ, okkwAR]) (by rw [d, c, bb, a]; simp [show mI M 29 6 = 0 from h4.1, mNwI, mSwI, mKwI, mIwI, mJwI, mRwI, mLwI, mAIwI, mAJwI, mARwI, mNwJ, mSwJ, mKwJ, mIwJ, mJwJ, mRwJ, mLwJ, mAIwJ, mAJwJ, mARwJ, mNwR, mSwR, mKwR, mIwR, mJwR, mRwR, mLwR, mAIwR, mAJwR, mARwR, mNwAI, mSwAI, mKwAI, mIwAI, mJwAI, mRwAI, mLwAI, mAIwAI, mAJwAI, mARwAI, mNwAJ, mSwAJ, mKwAJ, mIwAJ, mJwAJ, mRwAJ, mLwAJ, mAIwAJ, mAJwAJ, mARwAJ, mNwAR, mSwAR, mKwAR, mIwAR, mJwAR, mRwAR, mLwAR, mAIwAR, mAJwAR, mARwAR, okkwI, okkwJ, okkwR, okkwAI, okkwAJ, okkwAR]) (by rw [d, c, bb, a]; simp [mNwI, mSwI, mKwI, mIwI, mJwI, mRwI, mLwI, mAIwI, mAJwI, mARwI, mNwJ, mSwJ, mKwJ, mIwJ, mJwJ, mRwJ, mLwJ, mAIwJ, mAJwJ, mARwJ, mNwR, mSwR, mKwR, mIwR, mJwR, mRwR, mLwR, mAIwR, mAJwR, mARwR, mNwAI, mSwAI, mKwAI, mIwAI, mJwAI, mRwAI, mLwAI, mAIwAI, mAJwAI, mARwAI, mNwAJ, mSwAJ, mKwAJ, mIwAJ, mJwAJ, mRwAJ, mLwAJ, mAIwAJ, mAJwAJ, mARwAJ, mNwAR, mSwAR, mKwAR, mIwAR, mJwAR, mRwAR, mLwAR, mAIwAR, mAJwAR, mARwAR, okkwI, okkwJ, okkwR, okkwAI, okkwAJ, okkwAR]) (by rw [d]; simp [mNwI, mSwI, mKwI, mIwI, mJwI, mRwI, mLwI, mAIwI, mAJwI, mARwI, mNwJ, mSwJ, mKwJ, mIwJ, mJwJ, mRwJ, mLwJ, mAIwJ, mAJwJ, mARwJ, mNwR, mSwR, mKwR, mIwR, mJwR, mRwR, mLwR, mAIwR, mAJwR, mARwR, mNwAI, mSwAI, mKwAI, mIwAI, mJwAI, mRwAI, mLwAI, mAIwAI, mAJwAI, mARwAI, mNwAJ, mSwAJ, mKwAJ, mIwAJ, mJwAJ, mRwAJ, mLwAJ, mAIwAJ, mAJwAJ, mARwAJ, mNwAR, mSwAR, mKwAR, mIwAR, mJwAR, mRwAR, mLwAR, mAIwAR, mAJwAR, mARwAR, okkwI, okkwJ, okkwR, okkwAI, okkwAJ, okkwAR]) (stC.fr (by rw [d]; simp [mNwI, mSwI, mKwI, mIwI, mJwI, mRwI, mLwI, mAIwI, mAJwI, mARwI, mNwJ, mSwJ, mKwJ, mIwJ, mJwJ, mRwJ, mLwJ, mAIwJ, mAJwJ, mARwJ, mNwR, mSwR, mKwR, mIwR, mJwR, mRwR, mLwR, mAIwR, mAJwR, mARwR, mNwAI, mSwAI, mKwAI, mIwAI, mJwAI, mRwAI, mLwAI, mAIwAI, mAJwAI, mARwAI, mNwAJ, mSwAJ, mKwAJ, mIwAJ, mJwAJ, mRwAJ, mLwAJ, mAIwAJ, mAJwAJ, mARwAJ, mNwAR, mSwAR, mKwAR, mIwAR, mJwAR, mRwAR, mLwAR, mAIwAR, mAJwAR, mARwAR, okkwI, okkwJ, okkwR, okkwAI, okkwAJ, okkwAR]) (by rw [d]; rfl)) (h8.fr (by rw [d, c, bb, a]; simp [mNwI, mSwI, mKwI, mIwI, mJwI, mRwI, mLwI, mAIwI, mAJwI, mARwI, mNwJ, mSwJ, mKwJ, mIwJ, mJwJ, mRwJ, mLwJ, mAIwJ, mAJwJ, mARwJ, mNwR, mSwR, mKwR, mIwR, mJwR, mRwR, mLwR, mAIwR, mAJwR, mARwR, mNwAI, mSwAI, mKwAI, mIwAI, mJwAI, mRwAI, mLwAI, mAIwAI, mAJwAI, mARwAI, mNwAJ, mSwAJ, mKwAJ, mIwAJ, mJwAJ, mRwAJ, mLwAJ, mAIwAJ, mAJwAJ, mARwAJ, mNwAR, mSwAR, mKwAR, mIwAR, mJwAR, mRwAR, mLwAR, mAIwAR, mAJwAR, mARwAR, okkwI, okkwJ, okkwR, okkwAI, okkwAJ, okkwAR]) (by rw [d, mAI_wI, c, mAI_wI, bb, mAI_wAI_ne (by decide), a]; rfl)) (h9.fr (by rw [d, mAI_wI, c, mAI_wI, bb, mAI_wAI_ne (by decide), a]; rfl) (by rw [d, mAI_wI, c, mAI_wI, bb, mAI_wAI_ne (by decide), a]; rfl) (by rw [d, c, bb, a]; rfl) (by rw [d, mAI_wI, c, mAI_wI, bb, mAI_wAI_ne (by decide), a]; rfl)) ⟨by show X.length + (σ.length + 1) ≤ i + 1; omega, by omega, by omega, by omega, h10.2.2.2.2⟩ hB (fun k1 M' R' F' _ => ⟨rfl, H1 ho k1 M' (by rw [eq]; exact R') (frD.tr F')⟩) (fun k1 M' T' F' _ => ⟨rfl, H0 ho k1 M' (T'.x (by decide)) (frD.tr F')⟩)⟩
    rw [iC]
    refine ⟨fun hc5 => ?_, fun _ => ⟨fun h9 => ?_, fun h9 => ?_⟩⟩
    · exfalso
      have := inj32 (b := 5) (by omega) (by decide) hc5
      omega
    · have hop3 : op = 3 := by
        rcases hop with q | q
        · exact q
        · subst q; exact absurd rfl h9
      exact ⟨ok29 FC, fun D d => fin D 0 (by omega) d (by rw [hop3]; rfl)⟩
    · have hop9 : op = 9 := inj32 (b := 9) (by omega) (by decide) h9
      exact ⟨ok29 FC, fun D d => fin D 1 (by omega) d (by rw [if_pos hop9])⟩
  · rw [h3, lt32 (by omega)]
    exact ⟨32, rf29_3 F, ok32 F, by rw [ln32 F]; exact vp_of (by omega) (by decide), B_fails hR (by decide) (fun M' T' F' _ => ⟨rfl, H6 (e15.mp hc) M' T' F'⟩)⟩
theorem B_operator (hR : SR b n s m sN ro mx vN (0, 0) M i o pr σ ν X) (hB : By b) (H : Q (some (.int (if tK b n i = 20 then 7 else if tK b n i = 21 then 8 else if tK b n i = 22 then 4 else if tK b n i = 23 then 5 else if tK b n i = 24 then 6 else -1))) M) : E (h + 1) mdX11_operator [.ref 29] M Q := by
  obtain ⟨⟨r1, r2, r3⟩, h5, h8⟩ := hR.tok
  have F := hR.1.1
  have eK : tK b n i = ckK b n (tP b n i) := rfl
  have e : ∀ k ∈ sKs, (rS b n (tP b n i) = 3 ∧ rV b n (tP b n i) = sv k) ↔ tK b n i = k := fun k hk => said_sign hB hk
  refine KX11_operator ?_
  unfold DX11_operator_0 DX11_operator_121
  rw [h5, lt32 (by omega)]
  have v31 : vp_in (Int32.ofNat i) (mL M 31) := by rw [ln31 F]; exact vp_of h8 (by decide)
  have v33 : vp_in (Int32.ofNat i) (mL M 33) := by rw [ln33 F]; exact vp_of h8 (by decide)
  refine ⟨ok29 F, 31, rf29_2 F, ok31 F, v31, fun q3 => ⟨33, rf29_4 F, ok33 F, v33, fun n43 => ⟨33, rf29_4 F, ok33 F, v33, fun n45 => ⟨33, rf29_4 F, ok33 F, v33, fun n42 => ⟨33, rf29_4 F, ok33 F, v33, fun n47 => ⟨33, rf29_4 F, ok33 F, v33, fun n37 => ?_, fun y => ?_⟩, fun y => ?_⟩, fun y => ?_⟩, fun y => ?_⟩, fun y => ?_⟩, fun q3 => ?_⟩
  all_goals rw [r1] at q3
  · rw [r3, lgz] at n43 n45 n42 n47 n37
    rw [if_neg (fun z => n43 ((e 20 (by decide)).mpr z).2), if_neg (fun z => n45 ((e 21 (by decide)).mpr z).2), if_neg (fun z => n42 ((e 22 (by decide)).mpr z).2), if_neg (fun z => n47 ((e 23 (by decide)).mpr z).2), if_neg (fun z => n37 ((e 24 (by decide)).mpr z).2)] at H
    exact H
  · rw [r3, lgz] at y
    have k := (e 24 (by decide)).mp ⟨q3, y⟩
    rw [k] at H
    exact H
  · rw [r3, lgz] at y
    have k := (e 23 (by decide)).mp ⟨q3, y⟩
    rw [k] at H
    exact H
  · rw [r3, lgz] at y
    have k := (e 22 (by decide)).mp ⟨q3, y⟩
    rw [k] at H
    exact H
  · rw [r3, lgz] at y
    have k := (e 21 (by decide)).mp ⟨q3, y⟩
    rw [k] at H
    exact H
  · rw [r3, lgz] at y
    have k := (e 20 (by decide)).mp ⟨q3, y⟩
    rw [k] at H
    exact H
  · rw [if_neg (fun z => q3 ((e 20 (by decide)).mpr z).1), if_neg (fun z => q3 ((e 21 (by decide)).mpr z).1), if_neg (fun z => q3 ((e 22 (by decide)).mpr z).1), if_neg (fun z => q3 ((e 23 (by decide)).mpr z).1), if_neg (fun z => q3 ((e 24 (by decide)).mpr z).1)] at H
    exact H
/-- an operand and the negatives ahead of it -/
theorem B_operand {k : Nat} {σ0 : List Nat} {d : Nd} {va : Int64} (hR : SR b n s m sN ro mx vN (0, 0) M i (o + k) pr (List.replicate k 3 ++ σ0) ν X) (hB : By b) (hs : i < s) (ht : top? σ0 (fun x => x ≠ 3)) (h100 : ∀ x ∈ σ0, x < 100) (hd : d.1 < 3) (hva : va = d.2.1) (H1 : tK b n (i + 1) ≠ 0 → ∀ M', SR b n s m sN ro mx vN (0, 0) M' (i + 1) o pr σ0 ((ng k X.length (X ++ [d])).1 :: ν) (ng k X.length (X ++ [d])).2 → RFm m M M' → Q none M') (H0 : tK b n (i + 1) = 0 → ∀ M', TXr M' 1 (tP b n (i + 1)) → RFm m M M' → Q none M') : E (h + 3) mdX11_sumOperand [.ref 29, .int (Int32.ofNat d.1), .long va] M Q := by
  obtain ⟨h1, h2, h3, h4, h5, h6, h7, h8, h9, h10⟩ := id hR
  have F := h1.1
  refine KX11_sumOperand ?_
  unfold DX11_sumOperand_0
  refine ⟨ok29 F, B_sum (d := d) hR (by omega) (by omega) (by rw [hva]; unfold xa; rw [if_pos hd]) (by unfold xb; rw [if_pos (by omega)]) (fun M3 _ x3 i3 s52 s53 c3 F3 _ => ⟨_, rfl, ?_⟩)⟩
  refine KX11_pushed ?_
  unfold DX11_pushed_0
  have e31 : mI M3 29 31 = Int32.ofNat ν.length := (i3 31).trans h8.1
  rw [e31, lt32 (by omega)]
  have FF := c3.1
  refine ⟨ok29 FF, 53, rf29_30 FF, ok53 FF, by rw [ln53 FF]; exact vp_of (by omega) (by decide), fun M4 e4 M5 e5 => ?_⟩
  have i4 : mI M4 29 31 = Int32.ofNat ν.length := by rw [e4, mI_wAI]; exact e31
  rw [i4, succ32, e4] at e5
  have g : ∀ f, f ≠ 31 → mI M5 29 f = mI M 29 f := by intro f hf; rw [e5]; simp [hf, i3, mNwI, mSwI, mKwI, mIwI, mJwI, mRwI, mLwI, mAIwI, mAJwI, mARwI, mNwJ, mSwJ, mKwJ, mIwJ, mJwJ, mRwJ, mLwJ, mAIwJ, mAJwJ, mARwJ, mNwR, mSwR, mKwR, mIwR, mJwR, mRwR, mLwR, mAIwR, mAJwR, mARwR, mNwAI, mSwAI, mKwAI, mIwAI, mJwAI, mRwAI, mLwAI, mAIwAI, mAJwAI, mARwAI, mNwAJ, mSwAJ, mKwAJ, mIwAJ, mJwAJ, mRwAJ, mLwAJ, mAIwAJ, mAJwAJ, mARwAJ, mNwAR, mSwAR, mKwAR, mIwAR, mJwAR, mRwAR, mLwAR, mAIwAR, mAJwAR, mARwAR, okkwI, okkwJ, okkwR, okkwAI, okkwAJ, okkwAR]
  have st3 : St M3 53 31 (810 * m) ν := h8.fr (i3 31) s53
  have st5 : St M5 53 31 (810 * m) (X.length :: ν) := st3.push e5
  have F5 : RFm m M3 M5 := by rw [e5]; exact (RFm.st (Or.inr rfl)).tr (RFm.i (by decide))
  have a52 : mAI M5 52 = mAI M 52 := by rw [e5, mAI_wI, mAI_wAI_ne (by decide)]; exact s52
  have ops5 : St M5 52 29 0 (List.replicate k 3 ++ σ0) := h7.fr (g 29 (by decide)) a52
  have x5 : XR M5 m (X ++ [d]) := x3.fr (by rw [e5, mAI_wI]; exact mAI_wAI_ne (by decide)) (by rw [e5, mAI_wI]; exact mAI_wAI_ne (by decide)) (by rw [e5]; rfl) (by rw [e5, mAI_wI]; exact mAI_wAI_ne (by decide))
  have hb10 : (X ++ [d]).length + (List.replicate k 3 ++ σ0).length ≤ i + 1 := by rw [List.length_append]; show X.length + 1 + _ ≤ i + 1; omega
  refine fun _ => ⟨rfl, B_take (pr := pr) (o := o + k) (c3.fr F5) ⟨h2.1, h2.2.1, hs⟩ ((g 5 (by decide)).trans h3) ((g 6 (by decide)).trans h4.1) ((g 33 (by decide)).trans h5) ((g 32 (by decide)).trans h6) ops5 st5 x5 ⟨hb10, by show ν.length + 1 ≤ i + 1; omega, h10.2.2.1, by omega, fun y hy => ?_⟩ hB (fun k1 M6 R6 F6 _ => ⟨rfl, ?_⟩) (fun k1 M6 R6 F6 _ => ⟨rfl, ?_⟩)⟩
  · rw [List.length_append]
    show y < X.length + 1
    rcases List.mem_cons.mp hy with q | q
    · omega
    · have := h10.2.2.2.2 y q
      omega
  · exact neg15 ht h100 k M6 (i + 1) o X.length (X ++ [d]) R6 (fun M' R' F' => H1 k1 M' R' (((F3.tr F5).tr F6).tr F'))
  · exact neg15 ht h100 k M6 (i + 1) o X.length (X ++ [d]) R6 (fun M' R' F' => H0 k1 M' (R'.x (by decide)) (((F3.tr F5).tr F6).tr F'))
end
end
section
/-! the reference reads an operand -/
def EndO (b : Nat → Int32) (n s m : Nat) (sN : List Int64) (ro mx : List Int32) (vN : List Int64) (M : Mem) (o k pr : Nat) (σ0 ν : List Nat) (K : Mem → Prop) (Kx : Mem → Prop) (R : Except (Int32 × Nat) (Nat × List Nd × Int32)) : Prop := match R with
  | .ok r => ∀ M', SR b n s m sN ro mx vN (0, 0) M' r.1 o pr σ0 ((ng k (r.2.1.length - 1) r.2.1).1 :: ν) (ng k (r.2.1.length - 1) r.2.1).2 → RFm m M M' → K M'
  | .error e => ∀ M', TXr M' e.1 e.2 → RFm m M M' → Kx M'
section
variable {b : Nat → Int32} {n s m : Nat} {sN : List Int64} {ro mx : List Int32} {vN : List Int64} {M : Mem} {i o pr : Nat} {σ ν : List Nat} {X : List Nd} {h : Nat} {Q : Option Value → Mem → Prop}
theorem SR.name (hR : SR b n s m sN ro mx vN (0, 0) M i o pr σ ν X) (hB : By b) (hk : tK b n i = 2) : NmR b n (tC b n i) (mAJ M 33 i) := by
  obtain ⟨⟨r1, r2, r3⟩, h5, h8⟩ := hR.tok
  exact ⟨tP b n i, name_WD hB hk, rfl, r3⟩
theorem B_isName (hR : SR b n s m sN ro mx vN (0, 0) M i o pr σ ν X) (hB : By b) (H : Q (some (.int (if tK b n i = 2 then 1 else 0))) M) : E (h + 2) mdX11_isName [.ref 29] M Q := by
  obtain ⟨r, h5, h8⟩ := hR.tok
  exact R_isName hR.1.1 hB h5 h8 r H
theorem B_readOperand {k g : Nat} {u : Int32} {σ0 : List Nat} (hR : SR b n s m sN ro mx vN (0, 0) M i (o + k) pr (List.replicate k 3 ++ σ0) ν X) (hB : By b) (hS : Sto b n s) (h0 : tK b n i ≠ 0) (ht : top? σ0 (fun x => x ≠ 3)) (h100 : ∀ x ∈ σ0, x < 100) (k21 : tK b n i ≠ 21) (k15 : tK b n i ≠ 15) (H : EndO b n s m sN ro mx vN M o k pr σ0 ν (fun M' => Q none M') (fun M' => Q none M') (rd b n sN mx vN (g + 1) 0 i (o + k) X u)) : E (h + 4) mdX11_readOperand [.ref 29] M Q := by
  obtain ⟨⟨r1, r2, r3⟩, h5, h8⟩ := hR.tok
  have F := hR.1.1
  have hi := hR.2.1
  unfold rd at H
  rw [if_pos rfl, if_neg k21, if_neg k15] at H
  have len1 : ∀ d : Nd, (X ++ [d]).length - 1 = X.length := fun d => by rw [List.length_append]; rfl
  have eK : tK b n i = ckK b n (tP b n i) := rfl
  have v31 : ∀ {M : Mem}, Fix M → vp_in (Int32.ofNat i) (mL M 31) := fun F => by rw [ln31 F]; exact vp_of h8 (by decide)
  have v32 : ∀ {M : Mem}, Fix M → vp_in (Int32.ofNat i) (mL M 32) := fun F => by rw [ln32 F]; exact vp_of h8 (by decide)
  have v33 : ∀ {M : Mem}, Fix M → vp_in (Int32.ofNat i) (mL M 33) := fun F => by rw [ln33 F]; exact vp_of h8 (by decide)
  have en := said_num (b := b) (n := n) (p := tP b n i) hB
  refine KX11_readOperand ?_
  unfold DX11_readOperand_0 DX11_readOperand_227
  rw [h5, lt32 (by omega)]
  refine ⟨ok29 F, 31, rf29_2 F, ok31 F, v31 F, fun hn2 => ?_, fun h2 => ?_⟩
  · rw [r1] at hn2
    have n3 : tK b n i ≠ 3 := fun z => hn2 (en.mpr z)
    rw [if_neg n3] at H
    refine B_said hR hB (k := 19) (by decide) rfl (fun _ => ⟨_, rfl, fun q => ?_, fun q => ?_⟩)
    · have n19 : tK b n i ≠ 19 := by intro z; rw [if_pos z] at q; exact absurd q (by decide)
      refine B_isName hR hB (fun _ => ⟨_, rfl, fun q2 => ?_, fun q2 => ?_⟩)
      · have k2 : tK b n i = 2 := by
          by_cases z : tK b n i = 2
          · exact z
          · rw [if_neg z] at q2; exact absurd rfl q2
        rw [if_pos k2] at H
        have hs := hS.lt hi.2.2 h0 (by rw [k2]; decide)
        have nm := hR.name hB k2
        rw [h5, lt32 (by omega)]
        refine ⟨33, rf29_4 F, ok33 F, v33 F, R_varNamed F hR.1.2.2 nm (fun _ => ⟨_, rfl, fun qv => ?_, fun qv => ?_⟩)⟩
        · cases e : fd vN (tC b n i) with
          | none => rw [e] at qv; exact absurd rfl qv
          | some j =>
            rw [e] at H
            rw [h5, lt32 (by omega)]
            refine ⟨33, rf29_4 F, ok33 F, v33 F, R_varNamed F hR.1.2.2 nm (fun _ => ⟨_, rfl, ?_⟩)⟩
            rw [e]
            have hj := (fd_some e).1
            have hv6 := hR.1.2.2.2.2.1.2.2.2
            refine B_operand (d := (1, Int64.ofNat j, 0)) (va := (Int32.ofNat j).toInt64) hR hB hs ht h100 (by show (1 : Nat) < 3; decide) (by show (Int32.ofNat j).toInt64 = Int64.ofNat j; exact i32_64 (by omega)) (fun k1 M' R' F' => ?_) (fun k1 M' T' F' => ?_)
            · have e2 : adv' b n i = .ok (i + 1) := by unfold adv'; rw [if_neg k1]
              rw [e2] at H
              refine fun _ => ⟨rfl, H M' ?_ F'⟩
              show SR b n s m sN ro mx vN (0, 0) M' (i + 1) o pr σ0 ((ng k ((X ++ [(1, Int64.ofNat j, 0)]).length - 1) (X ++ [(1, Int64.ofNat j, 0)])).1 :: ν) (ng k ((X ++ [(1, Int64.ofNat j, 0)]).length - 1) (X ++ [(1, Int64.ofNat j, 0)])).2
              rw [len1]; exact R'
            · have e2 : adv' b n i = .error (1, tP b n (i + 1)) := by unfold adv'; rw [if_pos k1]
              rw [e2] at H
              exact fun _ => ⟨rfl, H M' T' F'⟩
        · cases e : fd vN (tC b n i) with
          | none =>
            rw [e] at H
            rw [h5, lt32 (by omega)]
            exact ⟨32, rf29_3 F, ok32 F, v32 F, B_fails hR (by decide) (fun M' T' F' _ => ⟨rfl, H M' T' F'⟩)⟩
          | some j =>
            rw [e] at qv
            exact absurd qv (oi_ne (by have := (fd_some e).1; have := hR.1.2.2.2.2.1.2.2.2; omega))
      · have n2 : tK b n i ≠ 2 := by intro z; rw [if_pos z] at q2; exact absurd q2 (by decide)
        rw [if_neg n2, if_neg n19] at H
        rw [h5, lt32 (by omega)]
        exact ⟨32, rf29_3 F, ok32 F, v32 F, B_fails hR (by decide) (fun M' T' F' _ => ⟨rfl, H M' T' F'⟩)⟩
    · have k19 : tK b n i = 19 := by
        by_cases z : tK b n i = 19
        · exact z
        · rw [if_neg z] at q; exact absurd rfl q
      have n2 : tK b n i ≠ 2 := by rw [k19]; decide
      rw [if_neg n2, if_pos k19] at H
      have hs := hS.lt hi.2.2 h0 (by rw [k19]; decide)
      obtain ⟨g1, g2, g3, g4, g5, g6, g7, g8, g9, g10⟩ := id hR
      refine B_take (pr := pr) (o := o + k) g1 ⟨g2.1, g2.2.1, hs⟩ g3 g4.1 g5 g6 g7 g8 g9 ⟨by omega, by omega, g10.2.2.1, by omega, g10.2.2.2.2⟩ hB (fun k1 M1 R1 F1 _ => ⟨rfl, fun hc => absurd R1.2.2.2.1.1 hc, fun _ => ?_⟩) (fun k1 M1 R1 F1 _ => ⟨rfl, fun _ => ?_, fun hc => ?_⟩)
      · have e2 : adv' b n i = .ok (i + 1) := by unfold adv'; rw [if_neg k1]
        rw [e2] at H
        have H : EndO b n s m sN ro mx vN M o k pr σ0 ν (fun M' => Q none M') (fun M' => Q none M') (if tK b n (i + 1) = 2 then (match fd sN (tC b n (i + 1)) with
          | none => .error (4, tP b n (i + 1))
          | some k => if mx.getD k 0 = 0 then .error (4, tP b n (i + 1)) else (adv' b n (i + 1)).bind fun j' => .ok (j', X ++ [(2, Int64.ofNat k, 0)], u))
          else .error (2, tP b n (i + 1))) := H
        have FF := R1.1.1
        obtain ⟨-, h5', h8'⟩ := R1.tok
        have w31 : ∀ {M : Mem}, Fix M → vp_in (Int32.ofNat (i + 1)) (mL M 32) := fun F => by rw [ln32 F]; exact vp_of h8' (by decide)
        have w33 : ∀ {M : Mem}, Fix M → vp_in (Int32.ofNat (i + 1)) (mL M 33) := fun F => by rw [ln33 F]; exact vp_of h8' (by decide)
        unfold DX11_readOperand_76 DX11_readOperand_123 DX11_readOperand_147 DX11_readOperand_227
        refine B_isName R1 hB (fun _ => ⟨_, rfl, fun q2 => ?_, fun q2 => ?_⟩)
        · have n2' : tK b n (i + 1) ≠ 2 := by intro z; rw [if_pos z] at q2; exact absurd q2 (by decide)
          rw [if_neg n2'] at H
          refine ⟨ok29 FF, B_isName R1 hB (fun _ => ⟨_, rfl, fun q3 => ?_, fun _ => ?_⟩)⟩
          · rw [if_neg n2'] at q3; exact absurd rfl q3
          · rw [h5', lt32 (by omega)]
            exact ⟨32, rf29_3 FF, ok32 FF, w31 FF, B_fails R1 (by decide) (fun M' T' F' _ => ⟨rfl, H M' T' (F1.tr F')⟩)⟩
        · have k2 : tK b n (i + 1) = 2 := by
            by_cases z : tK b n (i + 1) = 2
            · exact z
            · rw [if_neg z] at q2; exact absurd rfl q2
          rw [if_pos k2] at H
          have nm := R1.name hB k2
          rw [h5', lt32 (by omega)]
          refine ⟨33, rf29_4 FF, ok33 FF, w33 FF, R_sigNamed FF R1.1.2.2 nm (fun _ => ⟨_, rfl, ok29 FF, B_isName R1 hB (fun _ => ⟨_, rfl, fun _ => ⟨fun qv => ?_, fun qv => ?_⟩, fun q3 => ?_⟩)⟩)⟩
          · cases e : fd sN (tC b n (i + 1)) with
            | none =>
              rw [e] at H
              rw [h5', lt32 (by omega)]
              exact ⟨ok29 FF, 32, rf29_3 FF, ok32 FF, w31 FF, B_fails R1 (by decide) (fun M' T' F' _ => ⟨rfl, H M' T' (F1.tr F')⟩)⟩
            | some j =>
              rw [e] at qv
              exact absurd qv (oi_ne (by have := (fd_some e).1; have := R1.1.2.2.2.2.1.1; omega))
          · cases e : fd sN (tC b n (i + 1)) with
            | none => rw [e] at qv; exact absurd rfl qv
            | some j =>
              rw [e] at H
              have H : EndO b n s m sN ro mx vN M o k pr σ0 ν (fun M' => Q none M') (fun M' => Q none M') (if mx.getD j 0 = 0 then .error (4, tP b n (i + 1)) else (adv' b n (i + 1)).bind fun j' => .ok (j', X ++ [(2, Int64.ofNat j, 0)], u)) := H
              have hj := (fd_some e).1
              obtain ⟨c1, c2, c3, c4, c5, c6, c7, c8, c9⟩ := R1.1.2.2
              have e16 : (16 : Int32) * mI M1 29 19 + oi (some j) = Int32.ofNat (16 * m + j) := by
                rw [c1, show (16 : Int32) = Int32.ofNat 16 from rfl, mul32]; exact add32
              rw [e16, lt32 (by omega)]
              have e39 : (mAI M1 39 (16 * m + j) = 0) ↔ mx.getD j 0 = 0 := by
                rw [(c8 j hj).1]
                by_cases z : mx.getD j 0 = 0
                · rw [if_pos z]; exact ⟨fun _ => z, fun _ => rfl⟩
                · rw [if_neg z]
                  exact ⟨fun q => absurd (by rw [show mx.getD j 0 = mx.getD j 0 - 32 + 32 by rw [Int32.sub_add_cancel], q]; rfl) (c8 j hj).2, fun q => absurd q z⟩
              refine ⟨39, rf29_13 FF, ok39 FF, by rw [ln39 FF]; exact vp_of (by omega) (by decide), fun qm => ?_, fun qm => ?_⟩
              · rw [if_neg (fun z => qm (e39.mpr z))] at H
                have hs2 := hS.lt hs k1 (by rw [k2]; decide)
                refine B_operand (d := (2, Int64.ofNat j, 0)) (va := (Int32.ofNat j).toInt64) R1 hB hs2 ht h100 (by show (2 : Nat) < 3; decide) (by show (Int32.ofNat j).toInt64 = Int64.ofNat j; exact i32_64 (by omega)) (fun k2 M' R' F' => ?_) (fun k2 M' T' F' => ?_)
                · have e5 : adv' b n (i + 1) = .ok (i + 1 + 1) := by unfold adv'; rw [if_neg k2]
                  rw [e5] at H
                  refine fun _ => ⟨rfl, H M' ?_ (F1.tr F')⟩
                  show SR b n s m sN ro mx vN (0, 0) M' (i + 1 + 1) o pr σ0 ((ng k ((X ++ [(2, Int64.ofNat j, 0)]).length - 1) (X ++ [(2, Int64.ofNat j, 0)])).1 :: ν) (ng k ((X ++ [(2, Int64.ofNat j, 0)]).length - 1) (X ++ [(2, Int64.ofNat j, 0)])).2
                  rw [len1]; exact R'
                · have e5 : adv' b n (i + 1) = .error (1, tP b n (i + 1 + 1)) := by unfold adv'; rw [if_pos k2]
                  rw [e5] at H
                  exact fun _ => ⟨rfl, H M' T' (F1.tr F')⟩
              · rw [if_pos (e39.mp qm)] at H
                rw [h5', lt32 (by omega)]
                exact ⟨ok29 FF, 32, rf29_3 FF, ok32 FF, w31 FF, B_fails R1 (by decide) (fun M' T' F' _ => ⟨rfl, H M' T' (F1.tr F')⟩)⟩
          · rw [if_pos k2] at q3; exact absurd q3 (by decide)
      · have e2 : adv' b n i = .error (1, tP b n (i + 1)) := by unfold adv'; rw [if_pos k1]
        rw [e2] at H
        exact H M1 (R1.x (by decide)) F1
      · have := R1.2.2.2.1.1
        rw [this] at hc
        exact absurd hc (by show ¬ (1 : Int32) = 0; decide)
  · rw [r1] at h2
    have k3 : tK b n i = 3 := en.mp h2
    rw [if_pos k3] at H
    have hs := hS.lt hi.2.2 h0 (by rw [k3]; decide)
    obtain ⟨-, -, x, hx, ex, ev⟩ := num_val2 hB k3
    refine ⟨33, rf29_4 F, ok33 F, v33 F, B_operand (d := (0, tC b n i, 0)) hR hB hs ht h100 (by show (0 : Nat) < 3; decide) (by rw [r3, ev]; exact ex.symm) (fun k1 M' R' F' => ?_) (fun k1 M' T' F' => ?_)⟩
    · have e2 : adv' b n i = .ok (i + 1) := by unfold adv'; rw [if_neg k1]
      rw [e2] at H
      refine fun _ => ⟨rfl, H M' ?_ F'⟩
      show SR b n s m sN ro mx vN (0, 0) M' (i + 1) o pr σ0 ((ng k ((X ++ [(0, tC b n i, 0)]).length - 1) (X ++ [(0, tC b n i, 0)])).1 :: ν) (ng k ((X ++ [(0, tC b n i, 0)]).length - 1) (X ++ [(0, tC b n i, 0)])).2
      rw [len1]; exact R'
    · have e2 : adv' b n i = .error (1, tP b n (i + 1)) := by unfold adv'; rw [if_pos k1]
      rw [e2] at H
      exact fun _ => ⟨rfl, H M' T' F'⟩
end
end
section
/-! the reference reads a sum: its loop against rd -/
def EndJ (Lm : Nat) (b : Nat → Int32) (n s m : Nat) (sN : List Int64) (ro mx : List Int32) (vN : List Int64) (M : Mem) (o pr : Nat) (σ0 ν : List Nat) (K : Mem → Prop) (Kx : Mem → Prop) (R : Except (Int32 × Nat) (Nat × List Nd × Int32)) : Prop := match R with
  | .ok r => ∀ M' π r' X', (∀ e ∈ π, 4 ≤ e.1 ∧ e.1 ≤ Lm) → SR b n s m sN ro mx vN (0, 0) M' r.1 o pr (π.map Prod.fst ++ σ0) (r' :: (π.map Prod.snd ++ ν)) X' → jf π r' X' = (r.2.1.length - 1, r.2.1) → (tK b n r.1 ≠ 22 ∧ tK b n r.1 ≠ 23 ∧ tK b n r.1 ≠ 24 ∧ (Lm = 8 → tK b n r.1 ≠ 20 ∧ tK b n r.1 ≠ 21)) → RFm m M M' → K M'
  | .error e => ∀ M', TXr M' e.1 e.2 → RFm m M M' → Kx M'
theorem dec32 {a : Nat} (h : a < 100000) : Int32.ofNat (a + 1) - 1 = Int32.ofNat a := sub32 (c := 1) (by omega) (by omega)
section
variable {b : Nat → Int32} {n s m : Nat} {sN : List Int64} {ro mx : List Int32} {vN : List Int64} {h : Nat} {Q : Option Value → Mem → Prop}
theorem EndJ.fr {Lm : Nat} {M M1 : Mem} {o pr : Nat} {σ0 ν : List Nat} {K Kx : Mem → Prop} {R : Except (Int32 × Nat) (Nat × List Nd × Int32)} (hE : EndJ Lm b n s m sN ro mx vN M o pr σ0 ν K Kx R) (F : RFm m M M1) : EndJ Lm b n s m sN ro mx vN M1 o pr σ0 ν K Kx R := by
  cases R with
  | error e => exact fun M' T' F' => hE M' T' (F.tr F')
  | ok r => exact fun M' π r' X' a1 a2 a3 a4 F' => hE M' π r' X' a1 a2 a3 a4 (F.tr F')
theorem EndO.fr {M M1 : Mem} {o k pr : Nat} {σ0 ν : List Nat} {K Kx : Mem → Prop} {R : Except (Int32 × Nat) (Nat × List Nd × Int32)} (hE : EndO b n s m sN ro mx vN M o k pr σ0 ν K Kx R) (F : RFm m M M1) : EndO b n s m sN ro mx vN M1 o k pr σ0 ν K Kx R := by
  cases R with
  | error e => exact fun M' T' F' => hE M' T' (F.tr F')
  | ok r => exact fun M' a1 F' => hE M' a1 (F.tr F')
theorem XL {M : Mem} {f : Int32} {p : Nat} {x1 x2 : Int32} (hT : TXr M f p) (H : Q (some (.int 0)) M) : T (h + 5) mdX11_readSum 19 [(0, .ref 29), (1, .int x1), (2, .int x2)] [] M Q := by
  obtain ⟨F, h6, hp, h7⟩ := hT
  have n0 : ¬ mI M 29 6 = 0 := by rw [h6]; intro z; rw [z] at hp; exact absurd hp (by decide)
  have nl : ¬ mI M 29 6 ≤ 0 := by rw [h6]; exact Int32.not_le.mpr hp
  refine VX11_readSum_19 ?_
  unfold DX11_readSum_19 DX11_readSum_264 DX11_readSum_292
  refine ⟨fun _ => ⟨ok29 F, fun _ => ⟨ok29 F, fun z => absurd z nl, fun _ => H⟩, fun z => absurd z n0⟩, fun _ => ⟨ok29 F, fun _ => ⟨ok29 F, fun _ => ⟨ok29 F, fun z => absurd z nl, fun _ => H⟩, fun z => absurd z n0⟩, fun z => absurd z n0⟩⟩
theorem B_join {L : Nat} {σb νb : List Nat} {π : List (Nat × Nat)} {r : Nat} {X : List Nd} {M : Mem} {i o pr : Nat} (hL : L = 6 ∨ L = 8) (hb : top? σb (fun x => x < 4 ∨ L < x)) (hπ : ∀ e ∈ π, 4 ≤ e.1 ∧ e.1 ≤ L) (h100 : ∀ x ∈ σb, x < 100) (hR : SR b n s m sN ro mx vN (0, 0) M i o pr (π.map Prod.fst ++ σb) (r :: (π.map Prod.snd ++ νb)) X) (H : ∀ M', SR b n s m sN ro mx vN (0, 0) M' i o pr σb ((jf π r X).1 :: νb) (jf π r X).2 → RFm m M M' → Q none M') : E (h + 3) mdX11_joinSums [.ref 29, .int (Int32.ofNat L)] M Q := by
  refine E.of (by decide) (Nat.le_of_ble_eq_true rfl) (fun _ _ _ => trivial) ?_
  show T _ _ 0 [(0, .ref 29), (1, .int (Int32.ofNat L))] [] M _
  exact B_joinT hL hb π r X M i hπ h100 hR H
/-- an operator: pending ones are joined, it is put on the stack, its token is taken -/
theorem B_op {L op : Nat} {σb νb : List Nat} {π : List (Nat × Nat)} {r : Nat} {X : List Nd} {M : Mem} {i o pr : Nat} (hB : By b) (hs : i < s) (hL : L = 6 ∨ L = 8) (hop : op < 10) (hb : top? σb (fun x => x < 4 ∨ L < x)) (hπ : ∀ e ∈ π, 4 ≤ e.1 ∧ e.1 ≤ L) (h100 : ∀ x ∈ σb, x < 100) (hR : SR b n s m sN ro mx vN (0, 0) M i o pr (π.map Prod.fst ++ σb) (r :: (π.map Prod.snd ++ νb)) X) (H1 : tK b n (i + 1) ≠ 0 → ∀ M', SR b n s m sN ro mx vN (0, 0) M' (i + 1) o pr (op :: σb) ((jf π r X).1 :: νb) (jf π r X).2 → RFm m M M' → T (h + 5) mdX11_readSum 19 [(0, .ref 29), (1, .int 1), (2, .int 1)] [] M' Q) (H0 : tK b n (i + 1) = 0 → ∀ M', TXr M' 1 (tP b n (i + 1)) → RFm m M M' → T (h + 5) mdX11_readSum 19 [(0, .ref 29), (1, .int 1), (2, .int 1)] [] M' Q) : DX11_readSum_109 (h + 4) 29 1 (Int32.ofNat op) 29 (Int32.ofNat L) M Q := by
  unfold DX11_readSum_109
  have F := hR.1.1
  refine ⟨ok29 F, B_join (h := h + 1) hL hb hπ h100 hR (fun M2 R2 F2 _ => ⟨rfl, ok29 R2.1.1, 52, rf29_28 R2.1.1, ok52 R2.1.1, ?_⟩)⟩
  obtain ⟨h1, h2, h3, h4, h5, h6, h7, h8, h9, h10⟩ := id R2
  rw [h7.1, lt32 (by omega)]
  refine ⟨by rw [ln52 h1.1]; exact vp_of (by omega) (by decide), fun A a C c => ?_⟩
  have iA : mI A 29 29 = Int32.ofNat σb.length := by rw [a, mI_wAI]; exact h7.1
  rw [iA, succ32] at c
  have stC : St C 52 29 0 (op :: σb) := h7.push (x := op) (by rw [c, a, Nat.zero_add])
  have frC : RFm m M2 C := by rw [c, a]; exact (RFm.st (Or.inl rfl)).tr (RFm.i (by decide))
  have g : ∀ f, f ≠ 29 → mI C 29 f = mI M2 29 f := by intro f hf; rw [c, a]; simp [hf, mNwI, mSwI, mKwI, mIwI, mJwI, mRwI, mLwI, mAIwI, mAJwI, mARwI, mNwJ, mSwJ, mKwJ, mIwJ, mJwJ, mRwJ, mLwJ, mAIwJ, mAJwJ, mARwJ, mNwR, mSwR, mKwR, mIwR, mJwR, mRwR, mLwR, mAIwR, mAJwR, mARwR, mNwAI, mSwAI, mKwAI, mIwAI, mJwAI, mRwAI, mLwAI, mAIwAI, mAJwAI, mARwAI, mNwAJ, mSwAJ, mKwAJ, mIwAJ, mJwAJ, mRwAJ, mLwAJ, mAIwAJ, mAJwAJ, mARwAJ, mNwAR, mSwAR, mKwAR, mIwAR, mJwAR, mRwAR, mLwAR, mAIwAR, mAJwAR, mARwAR, okkwI, okkwJ, okkwR, okkwAI, okkwAJ, okkwAR]
  have k : ∀ q, q ≠ 52 → mAI C q = mAI M2 q := by intro q hq; rw [c, mAI_wI, a, mAI_wAI_ne hq]
  have kJ : mAJ C = mAJ M2 := by rw [c, a]; rfl
  refine B_take (pr := pr) (o := o) (h1.fr frC) ⟨h2.1, h2.2.1, hs⟩ ((g 5 (by decide)).trans h3) ((g 6 (by decide)).trans h4.1) ((g 33 (by decide)).trans h5) ((g 32 (by decide)).trans h6) stC (h8.fr (g 31 (by decide)) (k 53 (by decide))) (h9.fr (k 48 (by decide)) (k 49 (by decide)) (by rw [kJ]) (k 51 (by decide))) ⟨by show _ + (σb.length + 1) ≤ _; omega, by omega, h10.2.2.1, by omega, h10.2.2.2.2⟩ hB (fun k1 M' R' F' _ => ⟨rfl, H1 k1 M' R' ((F2.tr frC).tr F')⟩) (fun k1 M' T' F' _ => ⟨rfl, H0 k1 M' (T'.x (by decide)) ((F2.tr frC).tr F')⟩)
theorem opc {b : Nat → Int32} {n i : Nat} : (if tK b n i = 20 then (7 : Int32) else if tK b n i = 21 then 8 else if tK b n i = 22 then 4 else if tK b n i = 23 then 5 else if tK b n i = 24 then 6 else -1) = if tK b n i = 20 ∨ tK b n i = 21 ∨ tK b n i = 22 ∨ tK b n i = 23 ∨ tK b n i = 24 then Int32.ofNat (opS (tK b n i)) else -1 := by
  generalize tK b n i = t
  by_cases h0 : t = 20
  · subst h0; decide
  by_cases h1 : t = 21
  · subst h1; decide
  by_cases h2 : t = 22
  · subst h2; decide
  by_cases h3 : t = 23
  · subst h3; decide
  by_cases h4 : t = 24
  · subst h4; decide
  rw [if_neg h0, if_neg h1, if_neg h2, if_neg h3, if_neg h4, if_neg (by rintro (z | z | z | z | z) <;> first | exact h0 z | exact h1 z | exact h2 z | exact h3 z | exact h4 z)]
/-- the loop at an operator -/
theorem B_atOp {L : Nat} {σb νb : List Nat} {π : List (Nat × Nat)} {r : Nat} {X : List Nd} {M : Mem} {i o pr : Nat} (hB : By b) (hs : i < s) (hk : (L = 6 ∧ (tK b n i = 22 ∨ tK b n i = 23 ∨ tK b n i = 24)) ∨ (L = 8 ∧ (tK b n i = 20 ∨ tK b n i = 21))) (hb : top? σb (fun x => x < 4 ∨ L < x)) (hπ : ∀ e ∈ π, 4 ≤ e.1 ∧ e.1 ≤ L) (h100 : ∀ x ∈ σb, x < 100) (hR : SR b n s m sN ro mx vN (0, 0) M i o pr (π.map Prod.fst ++ σb) (r :: (π.map Prod.snd ++ νb)) X) (H1 : tK b n (i + 1) ≠ 0 → ∀ M', SR b n s m sN ro mx vN (0, 0) M' (i + 1) o pr (opS (tK b n i) :: σb) ((jf π r X).1 :: νb) (jf π r X).2 → RFm m M M' → T (h + 5) mdX11_readSum 19 [(0, .ref 29), (1, .int 1), (2, .int 1)] [] M' Q) (H0 : tK b n (i + 1) = 0 → ∀ M', TXr M' 1 (tP b n (i + 1)) → RFm m M M' → T (h + 5) mdX11_readSum 19 [(0, .ref 29), (1, .int 1), (2, .int 1)] [] M' Q) : T (h + 5) mdX11_readSum 19 [(0, .ref 29), (1, .int 0), (2, .int 1)] [] M Q := by
  have F := hR.1.1
  have h6 : mI M 29 6 = 0 := hR.2.2.2.1.1
  have any : tK b n i = 20 ∨ tK b n i = 21 ∨ tK b n i = 22 ∨ tK b n i = 23 ∨ tK b n i = 24 := by
    rcases hk with ⟨-, q | q | q⟩ | ⟨-, q | q⟩
    · exact Or.inr (Or.inr (Or.inl q))
    · exact Or.inr (Or.inr (Or.inr (Or.inl q)))
    · exact Or.inr (Or.inr (Or.inr (Or.inr q)))
    · exact Or.inl q
    · exact Or.inr (Or.inl q)
  have o9 : opS (tK b n i) < 9 ∧ (L = 8 ↔ 7 ≤ opS (tK b n i)) := by
    rcases hk with ⟨l, q | q | q⟩ | ⟨l, q | q⟩ <;> (rw [q, l]; decide)
  have L8 : L = 6 ∨ L = 8 := by rcases hk with ⟨l, -⟩ | ⟨l, -⟩ <;> omega
  have ge : ((7 : Int32) ≤ Int32.ofNat (opS (tK b n i))) ↔ 7 ≤ opS (tK b n i) := le32 (a := 7) (by decide) (by omega)
  have ne : ¬ Int32.ofNat (opS (tK b n i)) = -1 := oi_ne (by omega)
  refine VX11_readSum_19 ?_
  unfold DX11_readSum_19
  refine ⟨fun z => absurd z (by decide), fun _ => ⟨ok29 F, fun z => absurd h6 z, fun _ => ⟨fun _ => B_operator hR hB ?_, fun z => absurd rfl z⟩⟩⟩
  rw [opc, if_pos any]
  refine fun _ => ⟨_, rfl, fun z => absurd z ne, fun _ => B_operator hR hB ?_⟩
  rw [opc, if_pos any]
  refine fun _ => ⟨_, rfl, fun q => ?_, fun q => ?_⟩
  · have l : L = 8 := o9.2.mpr (ge.mp q)
    rw [l] at hb hπ L8
    exact B_op hB hs L8 (by omega) hb hπ h100 hR H1 H0
  · have l : L = 6 := L8.resolve_right (fun z => q (ge.mpr (o9.2.mp z)))
    rw [l] at hb hπ L8
    exact B_op hB hs L8 (by omega) hb hπ h100 hR H1 H0
/-- the loop behind an operand, at no operator -/
theorem B_noOp {σ ν : List Nat} {X : List Nd} {M : Mem} {i o pr : Nat} (hB : By b) (hR : SR b n s m sN ro mx vN (0, 0) M i o pr σ ν X) (hk : ¬ (tK b n i = 20 ∨ tK b n i = 21 ∨ tK b n i = 22 ∨ tK b n i = 23 ∨ tK b n i = 24)) (Hend : (pr = 0 ∨ tK b n i ≠ 16) → T (h + 5) mdX11_readSum 19 [(0, .ref 29), (1, .int 0), (2, .int 0)] [] M Q) (Hcl : pr ≠ 0 → tK b n i = 16 → E (h + 4) mdX11_joinSums [.ref 29, .int 8] M (fun r M6 => mE M M6 → r = none ∧ ∀ M7, M7 = wI M6 29 29 ((mI M6 29 29) - 1) → ∀ M8, M8 = wI M7 29 32 ((mI M7 29 32) - 1) → ∀ M9, M9 = wI M8 29 33 ((mI M8 29 33) - 1) → E (h + 4) mdX11_take [.ref 29] M9 (fun r M10 => mE M9 M10 → r = none ∧ T (h + 5) mdX11_readSum 199 [(0, .ref 29), (1, .int 0), (2, .int 1)] [] M10 Q))) : T (h + 5) mdX11_readSum 19 [(0, .ref 29), (1, .int 0), (2, .int 1)] [] M Q := by
  have F := hR.1.1
  have h6 : mI M 29 6 = 0 := hR.2.2.2.1.1
  have h32 : mI M 29 32 = Int32.ofNat pr := hR.2.2.2.2.2.1
  have hi := hR.2.1
  have h10 := hR.2.2.2.2.2.2.2.2.2
  have lp : (Int32.ofNat pr ≤ 0) ↔ pr ≤ 0 := le32 (b := 0) (by omega) (by decide)
  refine VX11_readSum_19 ?_
  unfold DX11_readSum_19 DX11_readSum_259
  refine ⟨fun z => absurd z (by decide), fun _ => ⟨ok29 F, fun z => absurd h6 z, fun _ => ⟨fun _ => B_operator hR hB ?_, fun z => absurd rfl z⟩⟩⟩
  rw [opc, if_neg hk]
  refine fun _ => ⟨_, rfl, fun _ => ⟨fun q => ?_, fun q => ?_⟩, fun z => absurd rfl z⟩
  · rw [h32, lp] at q
    exact Hend (Or.inl (by omega))
  · rw [h32, lp] at q
    refine B_said hR hB (k := 16) (by decide) rfl (fun _ => ⟨_, rfl, fun q2 => ?_, fun q2 => ?_⟩)
    · exact Hend (Or.inr (by intro z; rw [if_pos z] at q2; exact absurd q2 (by decide)))
    · refine Hcl (by omega) ?_
      by_cases z : tK b n i = 16
      · exact z
      · rw [if_neg z] at q2; exact absurd rfl q2
/-- the loop is left with a bracket unclosed -/
theorem B_left {σ ν : List Nat} {X : List Nd} {M : Mem} {i o pr : Nat} {x1 : Int32} (hR : SR b n s m sN ro mx vN (0, 0) M i o pr σ ν X) (hp : pr ≠ 0) (H : ∀ M', TXr M' 2 (tP b n i) → RFm m M M' → Q (some (.int 0)) M') : T (h + 5) mdX11_readSum 19 [(0, .ref 29), (1, .int x1), (2, .int 0)] [] M Q := by
  have F := hR.1.1
  have h6 : mI M 29 6 = 0 := hR.2.2.2.1.1
  have h32 : mI M 29 32 = Int32.ofNat pr := hR.2.2.2.2.2.1
  have hi := hR.2.1
  have h10 := hR.2.2.2.2.2.2.2.2.2
  obtain ⟨-, h5, h8⟩ := hR.tok
  have lp : (Int32.ofNat pr ≤ 0) ↔ pr ≤ 0 := le32 (b := 0) (by omega) (by decide)
  refine VX11_readSum_19 ?_
  unfold DX11_readSum_19 DX11_readSum_264 DX11_readSum_292
  refine ⟨fun _ => ⟨ok29 F, fun z => absurd h6 z, fun _ => ⟨fun q => ?_, fun _ => ?_⟩⟩, fun z => absurd rfl z⟩
  · rw [h32, lp] at q; omega
  · rw [h5, lt32 (by omega)]
    refine ⟨32, rf29_3 F, ok32 F, by rw [ln32 F]; exact vp_of h8 (by decide), B_fails hR (by decide) (fun M' T' F' _ => ⟨rfl, ok29 T'.1, fun z => ?_, fun _ => H M' T' F'⟩)⟩
    rw [T'.2.1] at z
    exact absurd z (by decide)
end
end
