/-! the reference looks behind, whole -/
section
variable {W : Wo} {m zn fn hi : Nat} {u : Vwr}
theorem zp_mem {R : Nat → Nat → Prop} : ∀ (ds cs : List Nat) (e : Nat × Nat), ZipP R ds cs → e ∈ ds.zip cs → R e.1 e.2
  | d :: ds, c :: cs, e, k, h => by
    rw [List.zip_cons_cons] at h
    rcases List.mem_cons.mp h with w | w
    · rw [w]; exact k.1
    · exact zp_mem ds cs e k.2 w
  | [], _, _, _, h => by rw [List.zip_nil_left] at h; exact absurd h (List.not_mem_nil)
  | _ :: _, [], _, _, h => by rw [List.zip_nil_right] at h; exact absurd h (List.not_mem_nil)
theorem rl_mem {R : Nat → Nat → Nat → Nat → Prop} : ∀ (ds cs : List Nat) (p p' : Nat) (e : Nat × Nat), RpLs R ds cs p p' → e ∈ ds.zip cs → ∃ q q', R e.1 e.2 q q'
  | d :: ds, c :: cs, p, p', e, ⟨pm, k1, k2⟩, h => by
    rw [List.zip_cons_cons] at h
    rcases List.mem_cons.mp h with w | w
    · rw [w]; exact ⟨p, pm, k1⟩
    · exact rl_mem ds cs pm p' e k2 w
  | [], _, _, _, _, _, h => by rw [List.zip_nil_left] at h; exact absurd h (List.not_mem_nil)
  | _ :: _, [], _, _, _, k, _ => False.elim k
theorem DsI.vl {V : Nat → Nat → Prop} {b : Nat × Nat} : ∀ (n : Nat) (a : Nat × Nat) (g : Nat), DsI W m u hi n a b → VlN W u V g a.1 a.2 → ∃ g', VlN W u V g' b.1 b.2
  | 0, a, g, h, k => by
    have h : a = b := h
    rw [← h]; exact ⟨g, k⟩
  | n + 1, a, 0, h, k => False.elim k
  | n + 1, a, g + 1, ⟨c, ⟨_, z⟩, h⟩, ⟨_, k⟩ => by
    rcases z with ⟨z1, z2, z3⟩ | ⟨z1, z2⟩
    · have z2 : (woV W a.2).2.2.2 = [c.2] := z2
      rcases k with ⟨-, c', k2, k3⟩ | ⟨k1, -⟩
      · rw [z2] at k2
        have e : c.2 = c' := (List.cons.inj k2).1
        rw [← e, ← z3] at k3
        exact DsI.vl n c g h k3
      · exact absurd ⟨z1, by rw [z2]; rfl⟩ k1
    · rcases k with ⟨k1, c', k2, -⟩ | ⟨-, k2⟩
      · exact absurd ⟨k1, by unfold chV; rw [k2]; rfl⟩ z1
      · exact DsI.vl n c g h (zp_mem _ _ c k2 z2)
theorem DsI.bd {hm : Nat → Int32} {N : Nat} {b : Nat × Nat} (hC : ClE W hm N) : ∀ (n : Nat) (a : Nat × Nat), DsI W m u hi n a b → 1 ≤ a.2 ∧ a.2 < N → 1 ≤ b.2 ∧ b.2 < N
  | 0, a, h, k => by
    have h : a = b := h
    rw [← h]; exact k
  | n + 1, a, ⟨c, ⟨_, z⟩, h⟩, k => by
    have hc := (hC a.2 k.1 k.2).2.2
    rcases z with ⟨-, z2, -⟩ | ⟨-, z2⟩
    · have z2 : (woV W a.2).2.2.2 = [c.2] := z2
      rw [z2] at hc
      exact DsI.bd hC n c h (hc c.2 (List.mem_singleton.mpr rfl))
    · exact DsI.bd hC n c h (hc c.2 (List.of_mem_zip z2).2)
theorem DsI.rp {b : Nat × Nat} : ∀ (n : Nat) (a : Nat × Nat) (g : Nat) (cx : List (Option Nat)) (p p' : Nat), DsI W m u hi n a b → RpN W m zn fn u hi g cx a.1 a.2 p p' → ∃ g' cx' q q', RpN W m zn fn u hi g' cx' b.1 b.2 q q'
  | 0, a, g, cx, p, p', h, k => by
    have h : a = b := h
    rw [← h]; exact ⟨g, cx, p, p', k⟩
  | n + 1, a, 0, _, _, _, h, k => by unfold RpN at k; exact k.elim
  | n + 1, a, g + 1, cx, p, p', ⟨c, ⟨_, z⟩, h⟩, k => by
    unfold RpN at k
    obtain ⟨-, k⟩ := k
    have nk : ∀ kk : Int32, (woV W a.2).1 = kk → kk ≠ 5 → c ∈ (u a.1).2.2.zip (woV W a.2).2.2.2 := fun kk e ne => by
      rcases z with ⟨z1, -⟩ | ⟨-, z2⟩
      · exact absurd (e.symm.trans z1) ne
      · exact z2
    have go : ∀ {cx' : List (Option Nat)} {q q' : Nat}, RpN W m zn fn u hi g cx' c.1 c.2 q q' → ∃ g' cx' q q', RpN W m zn fn u hi g' cx' b.1 b.2 q q' := fun k => DsI.rp n c g _ _ _ h k
    rcases k with ⟨a1, c', b1, b2⟩ | ⟨a1, b1, b2, b3⟩ | ⟨a1, a2, -⟩ | ⟨a1, -, a2, -⟩ | ⟨a1, a2, -⟩ | ⟨a1, a2, -⟩ | ⟨a1, b1, c1, c2, d1, pm, b2, b3, b4⟩ | ⟨a1, b1, c', d, b2, b3, b4⟩ | ⟨a1, b1, b5, c', d, b2, b3, b4⟩ | ⟨a1, b1, b2, b3⟩ | ⟨a1, b1, c', d, t, b2, b3, b4, b5⟩
    · rcases z with ⟨-, z2, z3⟩ | ⟨z1, -⟩
      · have z2 : (woV W a.2).2.2.2 = [c.2] := z2
        rw [b1] at z2
        have e : c' = c.2 := (List.cons.inj z2).1
        rw [e, ← z3] at b2
        exact go b2
      · exact absurd ⟨a1, by unfold chV; rw [b1]; rfl⟩ z1
    · have ln := RpLs.ln _ _ _ _ b3
      rcases z with ⟨-, z2, -⟩ | ⟨-, z2⟩
      · have z2 : (woV W a.2).2.2.2 = [c.2] := z2
        rw [z2] at ln
        have ln : (u a.1).2.2.length = 1 := ln
        omega
      · obtain ⟨q, q', w⟩ := rl_mem _ _ _ _ c b3 z2
        exact go w
    · have w := nk 0 a1 (by decide)
      rw [a2, List.zip_nil_right] at w
      exact absurd w List.not_mem_nil
    · have w := nk 1 a1 (by decide)
      rw [a2, List.zip_nil_right] at w
      exact absurd w List.not_mem_nil
    · have w := nk 2 a1 (by decide)
      rw [a2, List.zip_nil_right] at w
      exact absurd w List.not_mem_nil
    · have w := nk 3 a1 (by decide)
      rw [a2, List.zip_nil_right] at w
      exact absurd w List.not_mem_nil
    · have w := nk 4 a1 (by decide)
      rw [b2] at w
      rcases b4 with ⟨e, -⟩ | ⟨d2, e, b5⟩
      · rw [e] at w
        have w : c ∈ [(d1, c1)] := w
        rw [List.mem_singleton.mp w] at go
        exact go b3
      · rw [e] at w
        have w : c ∈ [(d1, c1), (d2, c2)] := w
        rcases List.mem_cons.mp w with w | w
        · rw [w] at go; exact go b3
        · rw [List.mem_singleton.mp w] at go; exact go b5
    · have w := nk 6 a1 (by decide)
      rw [b2, b3] at w
      have w : c ∈ [(d, c')] := w
      rw [List.mem_singleton.mp w] at go
      exact go b4
    · have w := nk 7 a1 (by decide)
      rw [b2, b3] at w
      have w : c ∈ [(d, c')] := w
      rw [List.mem_singleton.mp w] at go
      exact go b4
    · obtain ⟨q, q', w⟩ := rl_mem _ _ _ _ c b3 (nk 8 a1 (by decide))
      exact go w
    · have w := nk 9 a1 (by decide)
      rw [b2, b3] at w
      have w : c ∈ [(d, c')] := w
      rw [List.mem_singleton.mp w] at go
      exact go b5
end
theorem soK_5 {k : Int32} (h : soK k = 5) : k = 42 := by
  unfold soK at h
  by_cases e0 : k = 37
  · rw [if_pos e0] at h; exact absurd h (by decide)
  rw [if_neg e0] at h
  by_cases e1 : k = 38
  · rw [if_pos e1] at h; exact absurd h (by decide)
  rw [if_neg e1] at h
  by_cases e2 : k = 39
  · rw [if_pos e2] at h; exact absurd h (by decide)
  rw [if_neg e2] at h
  by_cases e3 : k = 40
  · rw [if_pos e3] at h; exact absurd h (by decide)
  rw [if_neg e3] at h
  by_cases e4 : k = 41
  · rw [if_pos e4] at h; exact absurd h (by decide)
  rw [if_neg e4] at h
  by_cases e5 : k = 42
  · exact e5
  rw [if_neg e5] at h
  by_cases e6 : k = 44
  · rw [if_pos e6] at h; exact absurd h (by decide)
  rw [if_neg e6] at h
  by_cases e7 : k = 47
  · rw [if_pos e7] at h; exact absurd h (by decide)
  rw [if_neg e7] at h
  by_cases e8 : k = 49
  · rw [if_pos e8] at h; exact absurd h (by decide)
  rw [if_neg e8] at h
  by_cases e9 : k = 50
  · rw [if_pos e9] at h; exact absurd h (by decide)
  rw [if_neg e9] at h
  by_cases e10 : k = 52
  · rw [if_pos e10] at h; exact absurd h (by decide)
  rw [if_neg e10] at h
  by_cases e11 : k = 53
  · rw [if_pos e11] at h; exact absurd h (by decide)
  rw [if_neg e11] at h
  by_cases e12 : k = 55
  · rw [if_pos e12] at h; exact absurd h (by decide)
  rw [if_neg e12] at h
  by_cases e13 : k = 57
  · rw [if_pos e13] at h; exact absurd h (by decide)
  rw [if_neg e13] at h
  by_cases e14 : k = 58
  · rw [if_pos e14] at h; exact absurd h (by decide)
  rw [if_neg e14] at h
  by_cases e15 : k = 2
  · rw [if_pos e15] at h; exact absurd h (by decide)
  rw [if_neg e15] at h
  by_cases e16 : k = 17
  · rw [if_pos e16] at h; exact absurd h (by decide)
  rw [if_neg e16] at h
  exact absurd h (by decide)
theorem soK_16 {k : Int32} (h : soK k = 16) : k = 17 := by
  unfold soK at h
  by_cases e0 : k = 37
  · rw [if_pos e0] at h; exact absurd h (by decide)
  rw [if_neg e0] at h
  by_cases e1 : k = 38
  · rw [if_pos e1] at h; exact absurd h (by decide)
  rw [if_neg e1] at h
  by_cases e2 : k = 39
  · rw [if_pos e2] at h; exact absurd h (by decide)
  rw [if_neg e2] at h
  by_cases e3 : k = 40
  · rw [if_pos e3] at h; exact absurd h (by decide)
  rw [if_neg e3] at h
  by_cases e4 : k = 41
  · rw [if_pos e4] at h; exact absurd h (by decide)
  rw [if_neg e4] at h
  by_cases e5 : k = 42
  · rw [if_pos e5] at h; exact absurd h (by decide)
  rw [if_neg e5] at h
  by_cases e6 : k = 44
  · rw [if_pos e6] at h; exact absurd h (by decide)
  rw [if_neg e6] at h
  by_cases e7 : k = 47
  · rw [if_pos e7] at h; exact absurd h (by decide)
  rw [if_neg e7] at h
  by_cases e8 : k = 49
  · rw [if_pos e8] at h; exact absurd h (by decide)
  rw [if_neg e8] at h
  by_cases e9 : k = 50
  · rw [if_pos e9] at h; exact absurd h (by decide)
  rw [if_neg e9] at h
  by_cases e10 : k = 52
  · rw [if_pos e10] at h; exact absurd h (by decide)
  rw [if_neg e10] at h
  by_cases e11 : k = 53
  · rw [if_pos e11] at h; exact absurd h (by decide)
  rw [if_neg e11] at h
  by_cases e12 : k = 55
  · rw [if_pos e12] at h; exact absurd h (by decide)
  rw [if_neg e12] at h
  by_cases e13 : k = 57
  · rw [if_pos e13] at h; exact absurd h (by decide)
  rw [if_neg e13] at h
  by_cases e14 : k = 58
  · rw [if_pos e14] at h; exact absurd h (by decide)
  rw [if_neg e14] at h
  by_cases e15 : k = 2
  · rw [if_pos e15] at h; exact absurd h (by decide)
  rw [if_neg e15] at h
  by_cases e16 : k = 17
  · exact e16
  rw [if_neg e16] at h
  exact absurd h (by decide)
theorem soK_le {k : Int32} : soK k ≤ 99 := by
  unfold soK
  by_cases e0 : k = 37
  · rw [if_pos e0]; decide
  rw [if_neg e0]
  by_cases e1 : k = 38
  · rw [if_pos e1]; decide
  rw [if_neg e1]
  by_cases e2 : k = 39
  · rw [if_pos e2]; decide
  rw [if_neg e2]
  by_cases e3 : k = 40
  · rw [if_pos e3]; decide
  rw [if_neg e3]
  by_cases e4 : k = 41
  · rw [if_pos e4]; decide
  rw [if_neg e4]
  by_cases e5 : k = 42
  · rw [if_pos e5]; decide
  rw [if_neg e5]
  by_cases e6 : k = 44
  · rw [if_pos e6]; decide
  rw [if_neg e6]
  by_cases e7 : k = 47
  · rw [if_pos e7]; decide
  rw [if_neg e7]
  by_cases e8 : k = 49
  · rw [if_pos e8]; decide
  rw [if_neg e8]
  by_cases e9 : k = 50
  · rw [if_pos e9]; decide
  rw [if_neg e9]
  by_cases e10 : k = 52
  · rw [if_pos e10]; decide
  rw [if_neg e10]
  by_cases e11 : k = 53
  · rw [if_pos e11]; decide
  rw [if_neg e11]
  by_cases e12 : k = 55
  · rw [if_pos e12]; decide
  rw [if_neg e12]
  by_cases e13 : k = 57
  · rw [if_pos e13]; decide
  rw [if_neg e13]
  by_cases e14 : k = 58
  · rw [if_pos e14]; decide
  rw [if_neg e14]
  by_cases e15 : k = 2
  · rw [if_pos e15]; decide
  rw [if_neg e15]
  by_cases e16 : k = 17
  · rw [if_pos e16]; decide
  rw [if_neg e16]
  decide
section
variable {m np : Nat} {A : Nat → Nat → Int32} {X : List Nd} {M : Mem} {h : Nat} {Q : Option Value → Mem → Prop} {W : Wo} {zn fn lo hw : Nat} {hm : Nat → Int32} {pn mk nu co : Nat → Int32} {S : RBs} {G : Nat → List Nat} {sl : List Nat} {km g y x p' N : Nat}
theorem L_clash {i i2 g r r' p pb : Nat} {K : List KE} {ff : Bool} {T : List (Nat × Nat)} (hL : LbM m np A X M) (hA : woA W = A) (hG : woG W = orF (gvK A m)) (hU : woU W = orF (uvK A X m)) (hi : i < 40) (hr : r < 100 ∧ r' ≤ 100) (e69 : woA W 69 (40 * m + i) = Int32.ofNat r) (t : TT W m zn fn lo hw g 3 K i r 1 0 0 ff (i + 1) i2 (r + 1) r' p pb T) (h2 : i2 ≤ np) (H : Q (some (.int (if ff = false then 0 else 1))) M) : E (h + 3) mdX11_clashes [.ref 29, .int (Int32.ofNat (40 * m + i))] M Q := by
  obtain ⟨F, h4, hX, hl, hAA, hs, hn⟩ := id hL
  refine KX11_clashes ?_
  unfold DX11_clashes_0
  rw [lt40 h4 hi]
  refine ⟨ok29 F, 69, rf29_49 F, ok69 F, ix40 h4 hi (ln69 F), ?_⟩
  rw [hAA 69 (by decide) (by decide) (by decide), ← hA, e69]
  refine C_out (h := h) hL hA hG hU g K i r 1 0 0 ff (i + 1) i2 (r + 1) r' p pb T 0 t (by omega) hr.2 h2 ?_
  cases ff with
  | false => exact H
  | true => exact H
theorem L_dead {v : Int32} (F : Fix M) (h4 : m < 4) (i19 : mI M 29 19 = Int32.ofNat m) (i6 : mI M 29 6 ≠ 0) (H : Q none M) : T (h + 1) mdX11_lookBehind 8 [(0, .ref 29), (1, .int v)] [] M Q := by
  refine VX11_lookBehind_8 ?_
  unfold DX11_lookBehind_8 DX11_lookBehind_119
  rw [i19]
  exact ⟨ok29 F, 54, rf29_34 F, ok54 F, by rw [ln54 F]; exact vp_of h4 (by decide), fun _ => H, fun _ => ⟨fun _ => H, fun z => absurd z i6⟩⟩
/-- what looking behind knows -/
def LkP (W : Wo) (hm : Nat → Int32) (m zn fn lo hw : Nat) (A : Nat → Nat → Int32) (X : List Nd) (np N : Nat) (M : Mem) : Prop := LbM m np A X M ∧ woA W = A ∧ woG W = orF (gvK A m) ∧ woU W = orF (uvK A X m) ∧ (∀ i, i < np → PrI W m zn fn lo hw np i) ∧ ClE W hm N ∧ hw ≤ N ∧ N ≤ 1000 ∧ mI M 29 6 = 0 ∧ mAI M 54 m = Int32.ofNat np
theorem L_look (hP : LkP W hm m zn fn lo hw A X np N M) (hR : BuR W hm m zn fn A pn S G mk nu co sl km g y x p' np M) (hx : 1 ≤ x ∧ x < N) (H0 : (∀ i, i < np → woP W i 2 = 0) → Q none M) (H1 : ∀ j pl, j < np → (∀ i, i < j → woP W i 2 = 0) → woP W j 2 ≠ 0 → woP W j 0 = Int32.ofNat pl → Q none (wI (wI M 29 6 (woP W j 2)) 29 7 (Int32.ofNat pl))) : E (h + 4) mdX11_lookBehind [.ref 29] M Q := by
  obtain ⟨hL, hA, hG, hU, hp, hC, hwN, hN, i6, e54⟩ := hP
  obtain ⟨F, h4, hX, hl, hAA, hs, hn⟩ := id hL
  obtain ⟨⟨hB, -⟩, rg, -, rp, ⟨go, -, -⟩, pd, -⟩ := id hR
  have i19 : mI M 29 19 = Int32.ofNat m := hB.2.2.1
  have e90 : mAI M 90 = pn := hB.2.2.2.2.2.2
  have e82 : mAI M 82 = S.2 82 := hB.2.2.2.2.1 82 (by decide) (by decide)
  have e89 : mAI M 89 = co := hB.2.2.2.2.1 89 (by decide) (by decide)
  have lm : (Int32.ofNat m).toNatClampNeg = m := lt32 (by omega)
  have x40 : ∀ k : Nat, (40 : Int32) * Int32.ofNat m + Int32.ofNat k = Int32.ofNat (40 * m + k) := fun k => by rw [Int32.ofNat_add, Int32.ofNat_mul]; rfl
  have main : ∀ (d i : Nat), i + d = np → (∀ k, k < i → woP W k 2 = 0) → T (h + 4) mdX11_lookBehind 8 [(0, .ref 29), (1, .int (Int32.ofNat (40 * m + i)))] [] M Q := by
    intro d
    induction d with
    | zero =>
      intro i hi h0
      have ei : i = np := by omega
      subst ei
      refine VX11_lookBehind_8 ?_
      unfold DX11_lookBehind_8 DX11_lookBehind_119
      rw [i19, lm]
      refine ⟨ok29 F, 54, rf29_34 F, ok54 F, by rw [ln54 F]; exact vp_of h4 (by decide), ?_⟩
      rw [e54, x40]
      exact ⟨fun _ => H0 h0, fun z => absurd Int32.le_rfl z⟩
    | succ d ih =>
      intro i hi h0
      have i40 : i < 40 := by omega
      have li : (Int32.ofNat (40 * m + i)).toNatClampNeg = 40 * m + i := lt40 h4 i40
      have st : Int32.ofNat (40 * m + i) + 1 = Int32.ofNat (40 * m + (i + 1)) := by rw [succ32]; rfl
      obtain ⟨k, K, p, pb, xi, ys, ff, i2, pc, pk, lt, li2, c17⟩ := hp i (by omega)
      obtain ⟨-, s58, ⟨pl, s59, s0⟩, -, s1⟩ := pc
      rw [hA] at s58 s59
      have m58 : mAI M 58 (40 * m + i) = Int32.ofNat (soK k) := by rw [hAA 58 (by decide) (by decide) (by decide)]; exact s58
      have m59 : mAI M 59 (40 * m + i) = Int32.ofNat pl := by rw [hAA 59 (by decide) (by decide) (by decide)]; exact s59
      have nxt : woP W i 2 = 0 → DX11_lookBehind_113 (h + 3) 29 (Int32.ofNat (40 * m + i)) M Q := fun e => by
        unfold DX11_lookBehind_113
        rw [st]
        refine ih (i + 1) (by omega) (fun j hj => ?_)
        by_cases ej : j = i
        · rw [ej]; exact e
        · exact h0 j (by omega)
      have bad : ∀ c : Int32, c ≠ 0 → woP W i 2 = c → E (h + 3) mdX11_fails [.ref 29, .int c, .int (Int32.ofNat pl)] M (fun r M8 => mE M M8 → r = none ∧ DX11_lookBehind_113 (h + 3) 29 (Int32.ofNat (40 * m + i)) M8 Q) := fun c nc e => by
        refine R_fails (h := h + 2) F (fun _ => ⟨rfl, ?_⟩)
        unfold flF
        rw [if_pos i6]
        have q := H1 i pl (by omega) h0 (by rw [e]; exact nc) s0
        rw [e] at q
        unfold DX11_lookBehind_113
        obtain ⟨M9, e9⟩ : ∃ M9, M9 = wI (wI M 29 6 c) 29 7 (Int32.ofNat pl) := ⟨_, rfl⟩
        have F9 : Fix M9 := by rw [e9]; exact F.i.i
        have a19 : mI M9 29 19 = Int32.ofNat m := by rw [e9, ← i19]; rfl
        have a6 : mI M9 29 6 ≠ 0 := by
          have : mI M9 29 6 = c := by rw [e9, mI_wI, if_neg (by decide), mI_wI, if_pos ⟨rfl, rfl⟩]
          rw [this]; exact nc
        rw [← e9] at q ⊢
        exact L_dead F9 h4 a19 a6 q
      have n16 : k ≠ 17 → ¬ Int32.ofNat (soK k) = 16 := fun nk z => nk (soK_16 (inj32 (by have := @soK_le k; omega) (by decide) z))
      have n5 : k ≠ 42 → ¬ Int32.ofNat (soK k) = 5 := fun nk z => nk (soK_5 (inj32 (by have := @soK_le k; omega) (by decide) z))
      have to82 : (k = 42 → woP W i 2 = 0) → DX11_lookBehind_82 (h + 3) 29 (Int32.ofNat (40 * m + i)) M Q := fun e42 => by
        unfold DX11_lookBehind_82
        rw [li]
        refine ⟨ok29 F, 58, rf29_38 F, ok58 F, ix40 h4 i40 (ln58 F), ?_⟩
        rw [m58]
        refine ⟨fun z => nxt ?_, fun z => ?_⟩
        · by_cases k42 : k = 42
          · exact e42 k42
          · unfold ltK at lt
            by_cases k17 : k = 17
            · rw [k17] at z; exact absurd rfl z
            · rw [lt, if_neg k42, if_neg k17]
        · have k17 : k = 17 := by
            by_cases w : k = 17
            · exact w
            · exact absurd z (n16 w)
          unfold ltK at lt
          rw [k17, if_neg (by decide), if_pos rfl] at lt
          obtain ⟨g3, r, r', T3, hr, e69, -, t3⟩ := c17 k17
          refine L_clash (h := h) hL hA hG hU i40 hr e69 t3 li2 (fun _ => ⟨_, rfl, fun r0 => nxt ?_, fun r0 => ⟨59, rf29_39 F, ok59 F, ix40 h4 i40 (ln59 F), ?_⟩⟩)
          · cases ff with
            | false => exact lt
            | true => exact absurd r0 (by decide)
          · rw [m59]
            cases ff with
            | false => exact absurd rfl r0
            | true => exact bad 8 (by decide) lt
      refine VX11_lookBehind_8 ?_
      unfold DX11_lookBehind_8
      rw [i19, lm, li]
      have nle : ¬ Int32.ofNat (40 * m + np) ≤ Int32.ofNat (40 * m + i) := fun z => by
        have := (le32 (by omega) (by omega)).mp z
        omega
      refine ⟨ok29 F, 54, rf29_34 F, ok54 F, by rw [ln54 F]; exact vp_of h4 (by decide), ?_⟩
      rw [e54, x40]
      refine ⟨fun z => absurd z nle, fun _ => ⟨fun z => absurd i6 z, fun _ => ⟨58, rf29_38 F, ok58 F, ix40 h4 i40 (ln58 F), ?_⟩⟩⟩
      rw [m58]
      refine ⟨fun z => to82 (fun e => ?_), fun z => ?_⟩
      · rw [e] at z; exact absurd rfl z
      · have k42 : k = 42 := by
          by_cases w : k = 42
          · exact w
          · exact absurd z (n5 w)
        obtain ⟨e, he, yi, xj, ⟨a1, a2⟩, a3, a4⟩ := pd i (Nat.zero_le _) (by omega)
        rw [List.mem_singleton.mp he] at a4
        obtain ⟨n, a4⟩ := a4
        have bx := DsI.bd hC n _ a4 hx
        have bx : 1 ≤ xj ∧ xj < N := bx
        unfold PkS at pk
        rw [k42] at pk
        have pk : ∃ y, ys = [y] ∧ ndS (woV W) lo hw xi 6 0 [y] := pk
        obtain ⟨c, ey, nd⟩ := pk
        have exx : xj = xi := inj32 (by omega) (by have := nd.1.2; omega) (a2.symm.trans s1)
        obtain ⟨g1, cx1, q, q', rp1⟩ := DsI.rp n _ _ _ _ _ a4 rp
        obtain ⟨g2, vl1⟩ := DsI.vl n _ _ a4 go
        have rp1 : RpN W m zn fn (vwR S G) (700 * m + S.1) g1 cx1 yi xj q q' := rp1
        have vl1 : VlN W (vwR S G) (Vok W hm mk nu co km) g2 yi xj := vl1
        rw [exx] at rp1 vl1
        cases g1 with
        | zero => unfold RpN at rp1; exact rp1.elim
        | succ g1 =>
        cases g2 with
        | zero => exact False.elim vl1
        | succ g2 =>
        have kd : (woV W xi).1 = 6 := nd.2.1
        have kc : (woV W xi).2.2.2 = [c] := nd.2.2.2
        have gd : ∃ d, G yi = [d] := by
          unfold RpN at rp1
          obtain ⟨-, k⟩ := rp1
          rw [kd] at k
          rcases k with ⟨a1, -⟩ | ⟨a1, -⟩ | ⟨a1, -⟩ | ⟨a1, -⟩ | ⟨a1, -⟩ | ⟨a1, -⟩ | ⟨a1, -⟩ | ⟨-, -, c', d, -, b3, -⟩ | ⟨a1, -⟩ | ⟨a1, -⟩ | ⟨a1, -⟩
          iterate 7 exact absurd a1 (by decide)
          · exact ⟨d, b3⟩
          iterate 3 exact absurd a1 (by decide)
        obtain ⟨d, gd⟩ := gd
        obtain ⟨lk, -, dr⟩ := rg.2.1 yi a3.1 a3.2
        rw [gd] at lk dr
        have hd := dr d (List.mem_singleton.mpr rfl)
        have s82 : S.2 82 yi = Int32.ofNat d := lk.1
        have vk : Vok W hm mk nu co km d c := by
          obtain ⟨-, k⟩ := vl1
          rcases k with ⟨k1, -⟩ | ⟨-, k2⟩
          · rw [kd] at k1; exact absurd k1 (by decide)
          · rw [kc, show (vwR S G yi).2.2 = [d] from gd] at k2
            have k2 := k2.1
            cases g2 with
            | zero => exact False.elim k2
            | succ g2 => exact k2.1
        have cd : co d = woC W c := vk.2.1
        unfold ltK at lt
        rw [k42, if_pos rfl, ey] at lt
        have lt : woP W i 2 = if woC W c &&& 1 = 0 then 0 else 7 := lt
        have ly : (Int32.ofNat yi).toNatClampNeg = yi := lt32 (by have := rg.1.2; omega)
        have ld : (Int32.ofNat d).toNatClampNeg = d := lt32 (by have := rg.1.2; omega)
        have m90 : mAI M 90 (40 * m + i) = Int32.ofNat yi := by rw [e90]; exact a1
        have m82 : mAI M 82 yi = Int32.ofNat d := by rw [e82]; exact s82
        have m89 : mAI M 89 d = woC W c := by rw [e89]; exact cd
        refine ⟨89, rf29_71 F, 82, rf29_64 F, 90, rf29_72 F, ok90 F, ix40 h4 i40 (ln90 F), ok82 F, ?_⟩
        rw [m90, ly, m82, ld, m89]
        refine ⟨by rw [ln82 F]; exact vp_of (by have := rg.1.2; omega) (by decide), ok89 F, by rw [ln89 F]; exact vp_of (by have := rg.1.2; omega) (by decide), fun w => to82 (fun _ => ?_), fun w => ⟨59, rf29_39 F, ok59 F, ix40 h4 i40 (ln59 F), ?_⟩⟩
        · rw [lt, if_pos w]
        · rw [m59]
          rw [if_neg w] at lt
          exact bad 7 (by decide) lt
  refine KX11_lookBehind ?_
  unfold DX11_lookBehind_0
  rw [i19]
  refine ⟨ok29 F, ?_⟩
  have e0 : (40 : Int32) * Int32.ofNat m = Int32.ofNat (40 * m + 0) := by rw [Nat.add_zero, Int32.ofNat_mul]; rfl
  rw [e0]
  exact main np 0 (by omega) (fun k hk => absurd hk (Nat.not_lt_zero _))
end
