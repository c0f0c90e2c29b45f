/-! a module of the reference once it is compiled -/
def RoO (τ : Td) : Prop := ∀ k, k < τ.2.1.length → τ.2.1.getD k 0 = 30 ∨ τ.2.1.getD k 0 = 31 ∨ τ.2.1.getD k 0 = 32
theorem ro_app {l : List Int32} {x : Int32} (h : ∀ k, k < l.length → l.getD k 0 = 30 ∨ l.getD k 0 = 31 ∨ l.getD k 0 = 32) (hx : x = 30 ∨ x = 31 ∨ x = 32) : ∀ k, k < (l ++ [x]).length → (l ++ [x]).getD k 0 = 30 ∨ (l ++ [x]).getD k 0 = 31 ∨ (l ++ [x]).getD k 0 = 32 := by
  intro k hk
  rw [List.length_append] at hk
  have hk : k < l.length + 1 := hk
  by_cases q : k < l.length
  · rw [show (l ++ [x]).getD k 0 = l.getD k 0 from by rw [List.getD_eq_getElem?_getD, List.getD_eq_getElem?_getD, List.getElem?_append_left q]]
    exact h k q
  · rw [show (l ++ [x]).getD k 0 = x from by rw [show k = l.length by omega, List.getD_eq_getElem?_getD, List.getElem?_append_right (Nat.le_refl _), Nat.sub_self]; rfl]
    exact hx
theorem td_ro {b : Nat → Int32} {n : Nat} : ∀ (g i : Nat) (τ : Td) (r : Nat × Td), RoO τ → td b n g i τ = .ok r → RoO r.2 := by
  intro g
  induction g with
  | zero => intro i τ r _ h; unfold td at h; cases h
  | succ g ih =>
    intro i τ r hM h
    unfold td at h
    by_cases k1 : tK b n i = 36
    · rw [if_pos k1] at h
      obtain ⟨j, -, h⟩ := bind_ok h
      obtain ⟨k, -, h⟩ := bind_ok h
      obtain ⟨q, hq, h⟩ := bind_ok h
      obtain ⟨l, -, h⟩ := bind_ok h
      refine ih _ _ _ ?_ h
      exact fun k hk => hM k hk
    rw [if_neg k1] at h
    by_cases k2 : tK b n i = 30 ∨ tK b n i = 31 ∨ tK b n i = 32
    · rw [if_pos k2] at h
      obtain ⟨j, -, h⟩ := bind_ok h
      obtain ⟨k, -, h⟩ := bind_ok h
      obtain ⟨q, -, h⟩ := bind_ok h
      obtain ⟨l, -, h⟩ := bind_ok h
      refine ih _ _ _ ?_ h
      exact ro_app (l := τ.2.1) hM k2
    · rw [if_neg k2] at h
      cases h
      exact hM
theorem rdm_ro {b : Nat → Int32} {n m : Nat} {A : Nat → Nat → Int32} {B : Nat → Int64} {Zt : Nat → Nat → Int32} {r : Nat × Td × PS × Nat} (e : rdM b n m A B Zt = .ok r) : RoO r.2.1 := by
  unfold rdM at e
  by_cases k0 : tK b n 0 = 0
  · rw [if_pos k0] at e; cases e
  · rw [if_neg k0] at e
    obtain ⟨q, hq, e⟩ := bind_ok e
    obtain ⟨w, -, e⟩ := bind_ok e
    cases e
    exact td_ro 900 0 td0 q (fun k hk => absurd hk (Nat.not_lt_zero _)) hq
theorem inL_nd (ro : List Int32) : (inL ro).Nodup := List.Pairwise.filter _ List.nodup_range
theorem nd_getD {l : List Nat} (h : l.Nodup) {i j : Nat} (hi : i < l.length) (hj : j < l.length) (e : l.getD i 0 = l.getD j 0) : i = j := by
  rw [List.getD_eq_getElem?_getD, List.getD_eq_getElem?_getD, List.getElem?_eq_getElem hi, List.getElem?_eq_getElem hj] at e
  exact (List.getElem_inj h).mp e
theorem mem_getD {l : List Nat} {v : Nat} (h : v ∈ l) : ∃ i, i < l.length ∧ l.getD i 0 = v := by
  obtain ⟨i, hi, e⟩ := List.getElem_of_mem h
  exact ⟨i, hi, by rw [List.getD_eq_getElem?_getD, List.getElem?_eq_getElem hi]; exact e⟩
section
variable {b : Nat → Int32} {n s m i root g0 km g y : Nat} {τ : Td} {σ : PS} {γ : Gh} {M1 M2 M3 : Mem} {pn : Nat → Int32} {S : RBs} {G : Nat → List Nat} {mk nu co : Nat → Int32} {sl : List Nat} {v : Int32}
theorem rb_mk (hz : ∀ i, n ≤ i → b i = 0) (hR : RPs b n s m τ [] σ M1 i 0) (hT : RTq m τ M1) (hb : BuW τ m σ root γ pn S G mk nu co sl km g y M2) (k : RGd m M1 M2) (hE : RdE τ m σ root γ g0) (hX : RdX τ σ root γ) (hK : TkI τ m σ) (hro : RoO τ) (e3 : M3 = wI M2 29 18 v) : RbM (mkR τ m σ S G mk nu km) sl (inL τ.2.1) σ.2.2.1 (npS σ) M3 := by
  have a3 : mAI M3 = mAI M2 := by rw [e3]; rfl
  have j3 : mAJ M3 = mAJ M2 := by rw [e3]; rfl
  obtain ⟨kN, kS, kK, kL, kR, kAR, kJ, kI, kf, kc, kj, kz⟩ := id k
  have c12 : ∀ c, c < 79 → mAI M2 c = mAI M1 c := fun c hc => kc c (by simp only [csC, List.mem_cons, List.not_mem_nil, or_false]; omega)
  have j12 : ∀ c, mAJ M2 c = mAJ M1 c := fun c => kj c (by simp)
  obtain ⟨⟨⟨F2, m4, -, b79, b80, b58, b90⟩, ⟨b94, b93⟩, b92⟩, hG, ⟨⟨hy1, hy2⟩, e91⟩, -, ⟨-, -, hkm⟩, hPd, -⟩ := id hb
  obtain ⟨hCo, ⟨n8, s8, i8⟩, -, -, -, ⟨hXR, hYR, -, -, ⟨q54, q55, q56, q57⟩, -⟩, ⟨x8, y8, -⟩⟩ := hR
  obtain ⟨-, -, -, -, ⟨S16, Sro, -, V6⟩, E34, E36, -, E38, -⟩ := hCo
  obtain ⟨⟨t35, t4, t41⟩, -⟩ := hT
  have b8 : bt b n i ≤ n + 1 := bt_le hz
  obtain ⟨nl1, nl2⟩ := hb.nl hE hX.2.2.2.2.2.2
  have w80 : ∀ c, 80 ≤ c → c ≤ 86 → (wS S mk nu co).2 c = S.2 c := fun c h1 h2 => by
    show (if c = 87 then mk else if c = 88 then nu else if c = 89 then co else S.2 c) = S.2 c
    rw [if_neg (by omega), if_neg (by omega), if_neg (by omega)]
  have A58 : ∀ c, 58 ≤ c → c ≤ 71 → mAI M3 c = σ.1.2.1 c := fun c h1 h2 => by rw [a3]; exact b58 c h1 (by omega) (by omega)
  have np40 : npS σ ≤ 40 := hE.2.2.2.1.2.2.1
  refine ⟨⟨⟨m4, hG, S16, hkm.1, hkm.2, by show σ.2.2.2.length ≤ 410; omega⟩, fun c y h1 h2 _ => by rw [a3, b80 c h1 (by omega), w80 c h1 h2]; rfl, fun y _ => ⟨by rw [a3, b80 87 (by decide) (by decide)]; rfl, by rw [a3, b80 88 (by decide) (by decide)]; rfl⟩, fun c p h1 h2 _ _ => by rw [A58 c h1 h2]; rfl, ?_, ⟨by rw [a3]; exact b79, by rw [a3]; exact b92, by rw [a3]; exact b94, by rw [a3]; exact b93, ?_, ?_⟩⟩, ⟨nl1, nl2, ?_, hb.st⟩, ⟨⟨?_, t4⟩, ?_, fun j k hj hk e => nd_getD (inL_nd _) hj hk e, fun j hj => ?_, fun q hq hq0 => ?_⟩, ⟨m4, ⟨?_, by omega⟩, ⟨?_, np40⟩, fun j hj => ?_⟩, fun j hj => ?_, ?_⟩
  · rw [a3, c12 45 (by decide), c12 46 (by decide), c12 47 (by decide)]
    exact hYR.2.1
  · rw [a3, c12 34 (by decide)]; exact E34
  · rw [a3, c12 38 (by decide)]; exact E38
  · intro q hq
    have hq : q < τ.1.length := hq
    rcases hro q (by omega) with e | e | e
    · exact ⟨0, by decide, by show τ.2.1.getD q 0 - 30 = _; rw [e]; decide⟩
    · exact ⟨1, by decide, by show τ.2.1.getD q 0 - 30 = _; rw [e]; decide⟩
    · exact ⟨2, by decide, by show τ.2.1.getD q 0 - 30 = _; rw [e]; decide⟩
  · rw [a3, c12 35 (by decide)]; exact t35
  · rw [a3, c12 41 (by decide)]; exact t41
  · obtain ⟨h1, h2⟩ := inL_at hj
    exact ⟨by show _ < τ.1.length; omega, s30.mpr h2⟩
  · have hq : q < τ.1.length := hq
    have q30 : τ.2.1.getD q 0 = 30 := s30.mp hq0
    exact mem_getD (List.mem_filter.mpr ⟨List.mem_range.mpr (by omega), decide_eq_true q30⟩)
  · obtain ⟨x1, x2⟩ := hXR
    refine ⟨by rw [a3]; show mAI M2 48 m = _; rw [c12 48 (by decide)]; exact x1, fun q hq => ?_⟩
    rw [a3, j3, c12 49 (by decide), c12 51 (by decide), j12 50]
    exact x2 q hq
  · rw [a3]; show mAI M2 54 m = _; rw [c12 54 (by decide)]; exact q54
  · have tk := hK.1 j hj
    have suf : ∀ {c1 c2 fo : Nat}, 58 ≤ c1 → c1 ≤ 71 → 58 ≤ c2 → c2 ≤ 71 → SuA m σ.1.2.1 σ.2.1.1 σ.2.2.1 (coS σ) j c1 c2 fo → SuR M3 σ.2.2.1 m j c1 c2 := fun {c1 c2 fo} h1 h2 h3 h4 h => by
      obtain ⟨f, c, hf, u1, u2, u3, -⟩ := h
      exact ⟨f, c, hf, by rw [A58 c1 h1 h2]; exact u1, by rw [A58 c2 h3 h4]; exact u2, u3⟩
    show RtP M3 σ.2.2.1 m j
    unfold RtP
    rw [A58 58 (by decide) (by decide), A58 60 (by decide) (by decide), A58 65 (by decide) (by decide)]
    rcases tk with ⟨-, t1, t2, t3⟩ | ⟨-, t1, ⟨s', u1, -, u2, -⟩, t3⟩ | ⟨-, t1, ⟨v', u1, u2, -⟩, t3⟩ | ⟨-, t1, -, t3, t4', -⟩
    · exact ⟨fun z => absurd z t1, fun z z2 => absurd (t3 z) z2, fun z => absurd z t2⟩
    · exact ⟨fun z => absurd (t1.symm.trans z) (by decide), fun _ _ => ⟨suf (by decide) (by decide) (by decide) (by decide) t3, s', by omega, u2⟩, fun z => absurd (t1.symm.trans z) (by decide)⟩
    · exact ⟨fun z => absurd (t1.symm.trans z) (by decide), fun z => absurd (t1.symm.trans z) (by decide), fun _ => ⟨suf (by decide) (by decide) (by decide) (by decide) t3, v', by omega, u2⟩⟩
    · exact ⟨fun _ => ⟨suf (by decide) (by decide) (by decide) (by decide) t3, suf (by decide) (by decide) (by decide) (by decide) t4'⟩, fun z => absurd (t1.symm.trans z) (by decide), fun z => absurd (t1.symm.trans z) (by decide)⟩
  · obtain ⟨e, he, yi, xi, ⟨p1, -⟩, p3, -⟩ := hPd j (Nat.zero_le _) hj
    exact ⟨yi, p3, by rw [a3, b90]; exact p1⟩
  · exact ⟨y, hy1, by rw [a3]; exact e91⟩
end
