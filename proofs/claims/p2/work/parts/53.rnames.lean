/-! the reference: keys and names -/
def kG0 : List Int64 := [5070782, 226799777, 277560228, 11318, 14431, 267347, 16083]
def kG1 : List Int64 := [5649913681, 8538566, 158537, 108155, 7672808363, 116174, 249, 406825]
def kG2 : List Int64 := [247552, 6460043375, 985142, 582248, 456392, 7672732672, 3094387]
def kG3 : List Int64 := [4027, 399641, 107681, 2682960935045, 458690, 123, 257, 1111, 423, 10631, 12155]
theorem key_sub : ∀ v ∈ key27, v ∈ kG0 ++ (kG1 ++ (kG2 ++ kG3)) := by decide +kernel
theorem key_sup : (∀ v ∈ kG0, v ∈ key27) ∧ (∀ v ∈ kG1, v ∈ key27) ∧ (∀ v ∈ kG2, v ∈ key27) ∧ (∀ v ∈ kG3, v ∈ key27) := by decide +kernel
theorem kN0 {v : Int64} (z0 : ¬ lg_cmp v 5070782 = 0) (z1 : ¬ lg_cmp v 226799777 = 0) (z2 : ¬ lg_cmp v 277560228 = 0) (z3 : ¬ lg_cmp v 11318 = 0) (z4 : ¬ lg_cmp v 14431 = 0) (z5 : ¬ lg_cmp v 267347 = 0) (z6 : ¬ lg_cmp v 16083 = 0) : v ∉ kG0 := by
  intro h
  simp only [kG0, List.mem_cons, List.not_mem_nil, or_false] at h
  rcases h with e | e | e | e | e | e | e
  · exact z0 (lgz.mpr e)
  · exact z1 (lgz.mpr e)
  · exact z2 (lgz.mpr e)
  · exact z3 (lgz.mpr e)
  · exact z4 (lgz.mpr e)
  · exact z5 (lgz.mpr e)
  · exact z6 (lgz.mpr e)
theorem kN1 {v : Int64} (z0 : ¬ lg_cmp v 5649913681 = 0) (z1 : ¬ lg_cmp v 8538566 = 0) (z2 : ¬ lg_cmp v 158537 = 0) (z3 : ¬ lg_cmp v 108155 = 0) (z4 : ¬ lg_cmp v 7672808363 = 0) (z5 : ¬ lg_cmp v 116174 = 0) (z6 : ¬ lg_cmp v 249 = 0) (z7 : ¬ lg_cmp v 406825 = 0) : v ∉ kG1 := by
  intro h
  simp only [kG1, List.mem_cons, List.not_mem_nil, or_false] at h
  rcases h with e | e | e | e | e | e | e | e
  · exact z0 (lgz.mpr e)
  · exact z1 (lgz.mpr e)
  · exact z2 (lgz.mpr e)
  · exact z3 (lgz.mpr e)
  · exact z4 (lgz.mpr e)
  · exact z5 (lgz.mpr e)
  · exact z6 (lgz.mpr e)
  · exact z7 (lgz.mpr e)
theorem kN2 {v : Int64} (z0 : ¬ lg_cmp v 247552 = 0) (z1 : ¬ lg_cmp v 6460043375 = 0) (z2 : ¬ lg_cmp v 985142 = 0) (z3 : ¬ lg_cmp v 582248 = 0) (z4 : ¬ lg_cmp v 456392 = 0) (z5 : ¬ lg_cmp v 7672732672 = 0) (z6 : ¬ lg_cmp v 3094387 = 0) : v ∉ kG2 := by
  intro h
  simp only [kG2, List.mem_cons, List.not_mem_nil, or_false] at h
  rcases h with e | e | e | e | e | e | e
  · exact z0 (lgz.mpr e)
  · exact z1 (lgz.mpr e)
  · exact z2 (lgz.mpr e)
  · exact z3 (lgz.mpr e)
  · exact z4 (lgz.mpr e)
  · exact z5 (lgz.mpr e)
  · exact z6 (lgz.mpr e)
theorem kN3 {v : Int64} (z0 : ¬ lg_cmp v 4027 = 0) (z1 : ¬ lg_cmp v 399641 = 0) (z2 : ¬ lg_cmp v 107681 = 0) (z3 : ¬ lg_cmp v 2682960935045 = 0) (z4 : ¬ lg_cmp v 458690 = 0) (z5 : ¬ lg_cmp v 123 = 0) (z6 : ¬ lg_cmp v 257 = 0) (z7 : ¬ lg_cmp v 1111 = 0) (z8 : ¬ lg_cmp v 423 = 0) (z9 : ¬ lg_cmp v 10631 = 0) (z10 : ¬ lg_cmp v 12155 = 0) : v ∉ kG3 := by
  intro h
  simp only [kG3, List.mem_cons, List.not_mem_nil, or_false] at h
  rcases h with e | e | e | e | e | e | e | e | e | e | e
  · exact z0 (lgz.mpr e)
  · exact z1 (lgz.mpr e)
  · exact z2 (lgz.mpr e)
  · exact z3 (lgz.mpr e)
  · exact z4 (lgz.mpr e)
  · exact z5 (lgz.mpr e)
  · exact z6 (lgz.mpr e)
  · exact z7 (lgz.mpr e)
  · exact z8 (lgz.mpr e)
  · exact z9 (lgz.mpr e)
  · exact z10 (lgz.mpr e)
theorem kD204 {h : Nat} {v : Int64} {M : Mem} {Q : Option Value → Mem → Prop} {x3 x4 s0 : Int32} (Hy : v ∈ key27 → Q (some (.int 1)) M) (Hn : v ∉ key27 → Q (some (.int 0)) M) (h3 : x3 = 0 ∧ v ∉ kG0 ∨ x3 = 1 ∧ v ∈ key27) (h4 : x4 = 0 ∧ v ∉ kG1 ∨ x4 = 1 ∧ v ∈ key27) (hs : s0 = 0 ∧ v ∉ kG2 ∨ s0 = 1 ∧ v ∈ key27) : DX11_isKey_204 h v x3 x4 s0 M Q := by
  unfold DX11_isKey_204 DX11_isKey_308 DX11_isKey_313
  have one : v ∈ key27 → ((1 : Int32) = 0 ∨ (1 : Int32) = 1) ∧ Q (some (.int 1)) M := fun q => ⟨Or.inr rfl, Hy q⟩
  refine ⟨fun q => ?_, fun q3 => ⟨fun q => ?_, fun q4 => ⟨fun q => ?_, fun qs => ?_⟩⟩⟩
  · rcases h3 with ⟨e, -⟩ | ⟨-, e⟩
    · exact absurd e q
    · exact one e
  · rcases h4 with ⟨e, -⟩ | ⟨-, e⟩
    · exact absurd e q
    · exact one e
  · rcases hs with ⟨e, -⟩ | ⟨-, e⟩
    · exact absurd e q
    · exact one e
  have Y3 : v ∈ kG3 → ((1 : Int32) = 0 ∨ (1 : Int32) = 1) ∧ Q (some (.int 1)) M := fun q => one (key_sup.2.2.2 v q)
  have g0 : v ∉ kG0 := by
    rcases h3 with ⟨-, e⟩ | ⟨e, -⟩
    · exact e
    · exact absurd (q3.symm.trans e) (by decide)
  have g1 : v ∉ kG1 := by
    rcases h4 with ⟨-, e⟩ | ⟨e, -⟩
    · exact e
    · exact absurd (q4.symm.trans e) (by decide)
  have g2 : v ∉ kG2 := by
    rcases hs with ⟨-, e⟩ | ⟨e, -⟩
    · exact e
    · exact absurd (qs.symm.trans e) (by decide)
  have N : v ∉ kG3 → ((0 : Int32) = 0 ∨ (0 : Int32) = 1) ∧ Q (some (.int 0)) M := by
    intro g3
    refine ⟨Or.inl rfl, Hn (fun q => ?_)⟩
    rcases List.mem_append.mp (key_sub v q) with q | q
    · exact g0 q
    · rcases List.mem_append.mp q with q | q
      · exact g1 q
      · rcases List.mem_append.mp q with q | q
        · exact g2 q
        · exact g3 q
  exact ⟨fun z => Y3 (by rw [lgz.mp z]; decide), fun z0 => ⟨fun z => Y3 (by rw [lgz.mp z]; decide), fun z1 => ⟨fun z => Y3 (by rw [lgz.mp z]; decide), fun z2 => ⟨fun z => Y3 (by rw [lgz.mp z]; decide), fun z3 => ⟨fun z => Y3 (by rw [lgz.mp z]; decide), fun z4 => ⟨fun z => Y3 (by rw [lgz.mp z]; decide), fun z5 => ⟨fun z => Y3 (by rw [lgz.mp z]; decide), fun z6 => ⟨fun z => Y3 (by rw [lgz.mp z]; decide), fun z7 => ⟨fun z => Y3 (by rw [lgz.mp z]; decide), fun z8 => ⟨fun z => Y3 (by rw [lgz.mp z]; decide), fun z9 => ⟨fun z10 => N (kN3 z0 z1 z2 z3 z4 z5 z6 z7 z8 z9 z10), fun z => Y3 (by rw [lgz.mp z]; decide)⟩⟩⟩⟩⟩⟩⟩⟩⟩⟩⟩
theorem kD141 {h : Nat} {v : Int64} {M : Mem} {Q : Option Value → Mem → Prop} {x3 s0 : Int32} (Hy : v ∈ key27 → Q (some (.int 1)) M) (Hn : v ∉ key27 → Q (some (.int 0)) M) (h3 : x3 = 0 ∧ v ∉ kG0 ∨ x3 = 1 ∧ v ∈ key27) (h4 : s0 = 0 ∧ v ∉ kG1 ∨ s0 = 1 ∧ v ∈ key27) : DX11_isKey_141 h v x3 s0 M Q := by
  unfold DX11_isKey_141 DX11_isKey_199
  have Y2 : v ∈ kG2 → DX11_isKey_204 h v x3 s0 1 M Q := fun q => kD204 Hy Hn h3 h4 (Or.inr ⟨rfl, key_sup.2.2.1 v q⟩)
  have N : v ∉ kG2 → DX11_isKey_204 h v x3 s0 0 M Q := fun q => kD204 Hy Hn h3 h4 (Or.inl ⟨rfl, q⟩)
  exact ⟨fun z => Y2 (by rw [lgz.mp z]; decide), fun z0 => ⟨fun z => Y2 (by rw [lgz.mp z]; decide), fun z1 => ⟨fun z => Y2 (by rw [lgz.mp z]; decide), fun z2 => ⟨fun z => Y2 (by rw [lgz.mp z]; decide), fun z3 => ⟨fun z => Y2 (by rw [lgz.mp z]; decide), fun z4 => ⟨fun z => Y2 (by rw [lgz.mp z]; decide), fun z5 => ⟨fun z6 => N (kN2 z0 z1 z2 z3 z4 z5 z6), fun z => Y2 (by rw [lgz.mp z]; decide)⟩⟩⟩⟩⟩⟩⟩
theorem kD71 {h : Nat} {v : Int64} {M : Mem} {Q : Option Value → Mem → Prop} {s0 : Int32} (Hy : v ∈ key27 → Q (some (.int 1)) M) (Hn : v ∉ key27 → Q (some (.int 0)) M) (h3 : s0 = 0 ∧ v ∉ kG0 ∨ s0 = 1 ∧ v ∈ key27) : DX11_isKey_71 h v s0 M Q := by
  unfold DX11_isKey_71 DX11_isKey_136
  have Y1 : v ∈ kG1 → DX11_isKey_141 h v s0 1 M Q := fun q => kD141 Hy Hn h3 (Or.inr ⟨rfl, key_sup.2.1 v q⟩)
  have N : v ∉ kG1 → DX11_isKey_141 h v s0 0 M Q := fun q => kD141 Hy Hn h3 (Or.inl ⟨rfl, q⟩)
  exact ⟨fun z => Y1 (by rw [lgz.mp z]; decide), fun z0 => ⟨fun z => Y1 (by rw [lgz.mp z]; decide), fun z1 => ⟨fun z => Y1 (by rw [lgz.mp z]; decide), fun z2 => ⟨fun z => Y1 (by rw [lgz.mp z]; decide), fun z3 => ⟨fun z => Y1 (by rw [lgz.mp z]; decide), fun z4 => ⟨fun z => Y1 (by rw [lgz.mp z]; decide), fun z5 => ⟨fun z => Y1 (by rw [lgz.mp z]; decide), fun z6 => ⟨fun z7 => N (kN1 z0 z1 z2 z3 z4 z5 z6 z7), fun z => Y1 (by rw [lgz.mp z]; decide)⟩⟩⟩⟩⟩⟩⟩⟩
theorem R_isKey {h j : Nat} {M : Mem} {Q : Option Value → Mem → Prop} (F : Fix M) (hj : mI M 29 5 = Int32.ofNat j) (h8 : j < 802) (Hy : mAJ M 33 j ∈ key27 → Q (some (.int 1)) M) (Hn : mAJ M 33 j ∉ key27 → Q (some (.int 0)) M) : E (h + 1) mdX11_isKey [.ref 29] M Q := by
  refine KX11_isKey ?_
  unfold DX11_isKey_0 DX11_isKey_66
  rw [hj, lt32 (by omega)]
  refine ⟨ok29 F, 33, rf29_4 F, ok33 F, by rw [ln33 F]; exact vp_of h8 (by decide), ?_⟩
  generalize mAJ M 33 j = v at Hy Hn
  have Y0 : v ∈ kG0 → DX11_isKey_71 h v 1 M Q := fun q => kD71 Hy Hn (Or.inr ⟨rfl, key_sup.1 v q⟩)
  have N : v ∉ kG0 → DX11_isKey_71 h v 0 M Q := fun q => kD71 Hy Hn (Or.inl ⟨rfl, q⟩)
  exact ⟨fun z => Y0 (by rw [lgz.mp z]; decide), fun z0 => ⟨fun z => Y0 (by rw [lgz.mp z]; decide), fun z1 => ⟨fun z => Y0 (by rw [lgz.mp z]; decide), fun z2 => ⟨fun z => Y0 (by rw [lgz.mp z]; decide), fun z3 => ⟨fun z => Y0 (by rw [lgz.mp z]; decide), fun z4 => ⟨fun z => Y0 (by rw [lgz.mp z]; decide), fun z5 => ⟨fun z6 => N (kN0 z0 z1 z2 z3 z4 z5 z6), fun z => Y0 (by rw [lgz.mp z]; decide)⟩⟩⟩⟩⟩⟩⟩
theorem key27_mem {v : Int64} : v ∈ key27 ↔ ∃ j, j < 33 ∧ v = key27.getD j 0 := by
  constructor
  · intro h
    obtain ⟨j, hj, e⟩ := List.mem_iff_getElem.mp h
    refine ⟨j, hj, ?_⟩
    rw [List.getD_eq_getElem?_getD, List.getElem?_eq_getElem hj, ← e]; rfl
  · rintro ⟨j, hj, rfl⟩
    have hl : j < key27.length := hj
    rw [List.getD_eq_getElem?_getD, List.getElem?_eq_getElem hl]
    exact List.getElem_mem hl
theorem R_isName {h j : Nat} {b : Nat → Int32} {n : Nat} {M : Mem} {Q : Option Value → Mem → Prop} (F : Fix M) (hB : By b) (hj : mI M 29 5 = Int32.ofNat j) (h8 : j < 802) (hR : RkR M b n j) (H : Q (some (.int (if tK b n j = 2 then 1 else 0))) M) : E (h + 2) mdX11_isName [.ref 29] M Q := by
  obtain ⟨r1, r2, r3⟩ := hR
  refine KX11_isName ?_
  unfold DX11_isName_0 DX11_isName_24 DX11_isName_25
  have hn := said_name (b := b) (n := n) (p := tP b n j) hB
  have eK : tK b n j = ckK b n (tP b n j) := rfl
  rw [eK] at H
  refine ⟨ok29 F, 31, rf29_2 F, ok31 F, by rw [ln31 F, hj]; exact vp_of h8 (by decide), fun hc => ⟨Or.inl rfl, ?_⟩, fun hc => ?_⟩
  · rw [hj, lt32 (by omega), r1] at hc
    rw [if_neg (fun z => hc (hn.mpr z).1)] at H
    exact H
  · rw [hj, lt32 (by omega), r1] at hc
    refine R_isKey F hj h8 (fun hk => fun _ => ⟨_, rfl, fun _ => ⟨Or.inl rfl, ?_⟩, fun z => absurd z (by decide)⟩) (fun hk => fun _ => ⟨_, rfl, fun z => absurd rfl z, fun _ => ⟨Or.inr rfl, ?_⟩⟩)
    · rw [r3, key27_mem] at hk
      obtain ⟨q, hq, e⟩ := hk
      rw [if_neg (fun z => (hn.mpr z).2 q hq e)] at H
      exact H
    · rw [r3] at hk
      have : ckK b n (tP b n j) = 2 := hn.mp ⟨hc, fun q hq e => hk (key27_mem.mpr ⟨q, hq, e⟩)⟩
      rw [if_pos this] at H
      exact H
/-! the reference's rows of a module -/
def NmR (b : Nat → Int32) (n : Nat) (c v : Int64) : Prop := ∃ p, WD b n p ∧ c = ckC b n p ∧ v = rV b n p
theorem NmR.eq {b : Nat → Int32} {n : Nat} {c v c' v' : Int64} (h : NmR b n c v) (h' : NmR b n c' v') : (c = c') ↔ (v = v') := by
  obtain ⟨p, w, rfl, rfl⟩ := h
  obtain ⟨p', w', rfl, rfl⟩ := h'
  exact WD_eq w w'
def RE (b : Nat → Int32) (n : Nat) (M : Mem) (m : Nat) (sN : List Int64) (ro mx : List Int32) (vN : List Int64) : Prop :=
  mI M 29 19 = Int32.ofNat m ∧ m < 4 ∧ (sN.length ≤ 16 ∧ ro.length = sN.length ∧ mx.length = sN.length ∧ vN.length ≤ 6) ∧ mAI M 34 m = Int32.ofNat sN.length ∧ mAI M 36 m = Int32.ofNat vN.length ∧
  (∀ k, k < sN.length → NmR b n (sN.getD k 0) (mAJ M 37 (16 * m + k))) ∧ (∀ k, k < sN.length → mAI M 38 (16 * m + k) = ro.getD k 0 - 30) ∧ (∀ k, k < sN.length → mAI M 39 (16 * m + k) = (if mx.getD k 0 = 0 then 0 else mx.getD k 0 - 32) ∧ mx.getD k 0 ≠ 32) ∧ (∀ k, k < vN.length → NmR b n (vN.getD k 0) (mAJ M 42 (6 * m + k)))
theorem mul32 {a c : Nat} : Int32.ofNat a * Int32.ofNat c = Int32.ofNat (a * c) := (Int32.ofNat_mul a c).symm
theorem rsig_loop {h m N : Nat} {b : Nat → Int32} {n : Nat} {c v : Int64} {M : Mem} {Q : Option Value → Mem → Prop} (F : Fix M) (hm : mI M 29 19 = Int32.ofNat m) (h4 : m < 4) (hN : mAI M 34 m = Int32.ofNat N) (h16 : N ≤ 16) (hv : NmR b n c v) : ∀ (l : List Int64) (j : Nat), j + l.length = N → (∀ k, k < l.length → NmR b n (l.getD k 0) (mAJ M 37 (16 * m + (j + k)))) → Q (some (.int (oj j (fd l c)))) M → T (h + 1) mdX11_signalNamed 2 [(0, .ref 29), (1, .long v), (3, .int (Int32.ofNat j))] [] M Q := by
  intro l
  induction l with
  | nil =>
    intro j hj _ H
    refine VX11_signalNamed_2 ?_
    unfold DX11_signalNamed_2
    have hj : j = N := hj
    rw [hm, lt32 (by omega)]
    refine ⟨ok29 F, 34, rf29_8 F, ok34 F, by rw [ln34 F]; exact vp_of h4 (by decide), fun _ => H, fun hc => absurd ?_ hc⟩
    rw [hN]; exact (le32 (by omega) (by omega)).mpr (by omega)
  | cons x l ih =>
    intro j hj hr H
    have hj : j + (l.length + 1) = N := hj
    refine VX11_signalNamed_2 ?_
    unfold DX11_signalNamed_2
    have e16 : (16 : Int32) * Int32.ofNat m + Int32.ofNat j = Int32.ofNat (16 * m + j) := by
      rw [show (16 : Int32) = Int32.ofNat 16 from rfl, mul32, add32]
    rw [hm, lt32 (by omega), succ32, e16, lt32 (by omega)]
    have q0 : NmR b n x (mAJ M 37 (16 * m + j)) := hr 0 (Nat.zero_lt_succ _)
    unfold fd at H
    refine ⟨ok29 F, 34, rf29_8 F, ok34 F, by rw [ln34 F]; exact vp_of h4 (by decide), fun hc => absurd hc ?_, fun _ => ⟨37, rf29_11 F, ok37 F, by rw [ln37 F]; exact vp_of (by omega) (by decide), fun hc => ?_, fun hc => ?_⟩⟩
    · rw [hN]; exact fun z => absurd ((le32 (by omega) (by omega)).mp z) (by omega)
    · rw [lgz, ← q0.eq hv] at hc
      rw [if_neg hc, oj_map] at H
      refine ih (j + 1) (by omega) (fun k hk => ?_) H
      have := hr (k + 1) (Nat.succ_lt_succ hk)
      rw [show j + 1 + k = j + (k + 1) by omega]
      exact this
    · rw [lgz, ← q0.eq hv] at hc
      rw [if_pos hc] at H
      exact H
theorem R_sigNamed {h m : Nat} {b : Nat → Int32} {n : Nat} {c v : Int64} {sN : List Int64} {ro mx : List Int32} {vN : List Int64} {M : Mem} {Q : Option Value → Mem → Prop} (F : Fix M) (hE : RE b n M m sN ro mx vN) (hv : NmR b n c v) (H : Q (some (.int (oi (fd sN c)))) M) : E (h + 1) mdX11_signalNamed [.ref 29, .long v] M Q := by
  obtain ⟨h1, h2, h3, h4, h5, h6, -⟩ := hE
  refine KX11_signalNamed ?_
  unfold DX11_signalNamed_0
  refine rsig_loop F h1 h2 h4 h3.1 hv sN 0 (Nat.zero_add _) (fun k hk => by rw [Nat.zero_add]; exact h6 k hk) ?_
  have e : oj 0 (fd sN c) = oi (fd sN c) := by cases fd sN c with
    | none => rfl
    | some k => show Int32.ofNat (0 + k) = Int32.ofNat k; rw [Nat.zero_add]
  rw [e]
  exact H
theorem rvar_loop {h m N : Nat} {b : Nat → Int32} {n : Nat} {c v : Int64} {M : Mem} {Q : Option Value → Mem → Prop} (F : Fix M) (hm : mI M 29 19 = Int32.ofNat m) (h4 : m < 4) (hN : mAI M 36 m = Int32.ofNat N) (h6 : N ≤ 6) (hv : NmR b n c v) : ∀ (l : List Int64) (j : Nat), j + l.length = N → (∀ k, k < l.length → NmR b n (l.getD k 0) (mAJ M 42 (6 * m + (j + k)))) → Q (some (.int (oj j (fd l c)))) M → T (h + 1) mdX11_variableNamed 2 [(0, .ref 29), (1, .long v), (3, .int (Int32.ofNat j))] [] M Q := by
  intro l
  induction l with
  | nil =>
    intro j hj _ H
    refine VX11_variableNamed_2 ?_
    unfold DX11_variableNamed_2
    have hj : j = N := hj
    rw [hm, lt32 (by omega)]
    refine ⟨ok29 F, 36, rf29_10 F, ok36 F, by rw [ln36 F]; exact vp_of h4 (by decide), fun _ => H, fun hc => absurd ?_ hc⟩
    rw [hN]; exact (le32 (by omega) (by omega)).mpr (by omega)
  | cons x l ih =>
    intro j hj hr H
    have hj : j + (l.length + 1) = N := hj
    refine VX11_variableNamed_2 ?_
    unfold DX11_variableNamed_2
    have e6 : (6 : Int32) * Int32.ofNat m + Int32.ofNat j = Int32.ofNat (6 * m + j) := by
      rw [show (6 : Int32) = Int32.ofNat 6 from rfl, mul32, add32]
    rw [hm, lt32 (by omega), succ32, e6, lt32 (by omega)]
    have q0 : NmR b n x (mAJ M 42 (6 * m + j)) := hr 0 (Nat.zero_lt_succ _)
    unfold fd at H
    refine ⟨ok29 F, 36, rf29_10 F, ok36 F, by rw [ln36 F]; exact vp_of h4 (by decide), fun hc => absurd hc ?_, fun _ => ⟨42, rf29_16 F, ok42 F, by rw [ln42 F]; exact vp_of (by omega) (by decide), fun hc => ?_, fun hc => ?_⟩⟩
    · rw [hN]; exact fun z => absurd ((le32 (by omega) (by omega)).mp z) (by omega)
    · rw [lgz, ← q0.eq hv] at hc
      rw [if_neg hc, oj_map] at H
      refine ih (j + 1) (by omega) (fun k hk => ?_) H
      have := hr (k + 1) (Nat.succ_lt_succ hk)
      rw [show j + 1 + k = j + (k + 1) by omega]
      exact this
    · rw [lgz, ← q0.eq hv] at hc
      rw [if_pos hc] at H
      exact H
theorem R_varNamed {h m : Nat} {b : Nat → Int32} {n : Nat} {c v : Int64} {sN : List Int64} {ro mx : List Int32} {vN : List Int64} {M : Mem} {Q : Option Value → Mem → Prop} (F : Fix M) (hE : RE b n M m sN ro mx vN) (hv : NmR b n c v) (H : Q (some (.int (oi (fd vN c)))) M) : E (h + 1) mdX11_variableNamed [.ref 29, .long v] M Q := by
  obtain ⟨h1, h2, h3, h4, h5, h6, h7, h8, h9⟩ := hE
  refine KX11_variableNamed ?_
  unfold DX11_variableNamed_0
  refine rvar_loop F h1 h2 h5 h3.2.2.2 hv vN 0 (Nat.zero_add _) (fun k hk => by rw [Nat.zero_add]; exact h9 k hk) ?_
  have e : oj 0 (fd vN c) = oi (fd vN c) := by cases fd vN c with
    | none => rfl
    | some k => show Int32.ofNat (0 + k) = Int32.ofNat k; rw [Nat.zero_add]
  rw [e]
  exact H
