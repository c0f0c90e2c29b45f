/-! the reference: the codes of a node -/
section
variable {m : Nat} {A : Nat → Nat → Int32} {pn : Nat → Int32} {S : RBs} {G : Nat → List Nat} {M M' : Mem} {h : Nat} {Q : Option Value → Mem → Prop} {n : Nat}
theorem G_codeOf {ρ : Nat → Nat} {z x k v : Nat} {cx : List (Option Nat)} (hr : ∀ z x, prB m S z x → ρ z < ρ x) (hB : BuM m A pn S M) (h7 : S.1 ≤ 700) (hp : prB m S z x) (ht : TrC m S pn k x cx) (he : (S.2 81 z = -1 ∧ v = 0 ∧ cx ≠ []) ∨ ∃ j e, j < 40 ∧ e < 160 ∧ S.2 81 z = Int32.ofNat (40 * m + j) ∧ A 60 (40 * m + j) = Int32.ofNat e ∧ cx[v]? = some (some e)) (H : Q (some (.int (Int32.ofNat (2 + v)))) M) : E (h + 1) mdX11_codeOf [.ref 29, .int (Int32.ofNat z)] M Q := by
  obtain ⟨F, h4, b2, b3, b4, b5, b6⟩ := id hB
  obtain ⟨⟨z1, z2⟩, x1, x2⟩ := id hp
  have lz : (Int32.ofNat z).toNatClampNeg = z := lt32 (by omega)
  have vz : ∀ {k : Nat}, k = 2800 → vp_in (Int32.ofNat z) k := fun e => by rw [e]; exact vp_of (by omega) (by decide)
  have m86 : mAI M 86 z = Int32.ofNat x := by rw [b4 86 (by decide) (by decide)]; exact x2
  have m81 : mAI M 81 z = S.2 81 z := by rw [b4 81 (by decide) (by decide)]
  refine KX11_codeOf ?_
  unfold DX11_codeOf_0 DX11_codeOf_39
  rw [lz]
  refine ⟨ok29 F, 86, rf29_68 F, ok86 F, vz (ln86 F), 81, rf29_63 F, ok81 F, vz (ln81 F), ?_⟩
  rw [m81, m86]
  have two : (2 : Int32) = Int32.ofNat 2 := rfl
  rcases he with ⟨e1, e2, e3⟩ | ⟨j, e, e1, e2, e3, e4, e5⟩
  · refine ⟨fun w => absurd e1 w, fun _ => ?_⟩
    rw [two]
    exact co_loop hr hB h7 k x cx v 2 (-1) ht (Or.inl ⟨rfl, e2, e3⟩) H
  · rw [e3]
    refine ⟨fun _ => ?_, fun w => absurd w (nm32 (by omega))⟩
    have m60 : mAI M 60 (40 * m + j) = Int32.ofNat e := by rw [b5 60 (by decide) (by decide) (by decide)]; exact e4
    have l40 := lt40 h4 e1
    have lE : (Int32.ofNat e).toNatClampNeg = e := lt32 (by omega)
    have m81' : mAI M 81 z = Int32.ofNat (40 * m + j) := m81.trans e3
    refine ⟨90, rf29_72 F, 60, rf29_40 F, 81, rf29_63 F, ok81 F, vz (ln81 F), ok60 F, by rw [m81']; exact ix40 h4 e1 (ln60 F), ok90 F, by rw [m81', l40, m60, ln90 F]; exact vp_of e2 (by decide), ?_⟩
    rw [m81', l40, m60, lE, b6, two]
    obtain ⟨n', p1, p2, -⟩ := TrC_get hr k x cx v e ht e5
    exact co_loop hr hB h7 k x cx v 2 (pn e) ht (Or.inr ⟨e, e5, rfl, by rw [p2]; exact nm32 (by omega)⟩) H
def lwF (x : Int32) : Nat → Nat → Nat
  | 0, k => k
  | f + 1, k => if (x >>> (Int32.ofNat k &&& 31)) &&& 1 = 0 then lwF x f (k + 1) else k
def lwI (x : Int32) : Nat := lwF x 30 0
theorem lw_loop {x : Int32} : ∀ (f k : Nat), f + k = 30 → Q (some (.int (Int32.ofNat (lwF x f k)))) M → T (h + 1) mdX11_lowest 2 [(0, .int x), (1, .int (Int32.ofNat k))] [] M Q := by
  intro f
  induction f with
  | zero =>
    intro k hk H
    have : k = 30 := by omega
    subst this
    refine VX11_lowest_2 ?_
    unfold DX11_lowest_2 DX11_lowest_22
    exact ⟨fun _ => H, fun z => absurd (by decide) z⟩
  | succ f ih =>
    intro k hk H
    refine VX11_lowest_2 ?_
    unfold DX11_lowest_2 DX11_lowest_22
    have nle : ¬ ((30 : Int32) ≤ Int32.ofNat k) := by
      have e : (30 : Int32) = Int32.ofNat 30 := rfl
      rw [e, le32 (by decide) (by omega)]
      omega
    unfold lwF at H
    refine ⟨fun z => absurd z nle, fun _ => ⟨fun z => ?_, fun z => ?_⟩⟩
    · rw [if_neg z] at H; exact H
    · rw [if_pos z] at H
      rw [succ32]
      exact ih (k + 1) (by omega) H
theorem G_low {x : Int32} (H : Q (some (.int (Int32.ofNat (lwI x)))) M) : E (h + 1) mdX11_lowest [.int x] M Q := by
  refine KX11_lowest ?_
  unfold DX11_lowest_0
  exact lw_loop 30 0 rfl H
/-- those behind c -/
def NxC (B : Nat → Nat → Int32) : Nat → List Nat → Prop
  | c, [] => B 84 c = -1
  | c, d :: r => B 84 c = Int32.ofNat d ∧ NxC B d r
theorem nx_of {B : Nat → Nat → Int32} : ∀ (l : List Nat) (c : Nat), (∀ i, i + 1 < (c :: l).length → B 84 ((c :: l).getD i 0) = Int32.ofNat ((c :: l).getD (i + 1) 0)) → B 84 ((c :: l).getLastD 0) = -1 → NxC B c l
  | [], c, _, h2 => h2
  | d :: l, c, h1, h2 => ⟨h1 0 (by simp), nx_of l d (fun i hi => h1 (i + 1) (by simpa using hi)) (by rw [List.getLastD_cons, List.getLastD_cons] at h2; rw [List.getLastD_cons]; exact h2)⟩
theorem LkR.nx {B : Nat → Nat → Int32} {x c : Nat} {l : List Nat} (h : LkR B x (c :: l)) : NxC B c l := nx_of l c (fun i hi => (h.2.2.1 i hi).1) (h.2.2.2.2 (by simp)).1
def seF (a c : Int32) : Int32 := (a &&& (-2)) ||| (if a &&& 1 = 0 then 0 else c)
def pjF (a c : Int32) : Int32 := if a = 0 ∨ c = 0 then 0 else ((a ||| c) >>> (Int32.ofNat (if lwI a ≤ lwI c then lwI c else lwI a) &&& 31)) <<< (Int32.ofNat (if lwI a ≤ lwI c then lwI c else lwI a) &&& 31)
theorem cd_seq (hB : BuM m A pn S M) : ∀ (r : List Nat) (c : Nat) (a : Int32), NxC S.2 c r → (∀ z ∈ c :: r, z < 2800) → Q (some (.int ((c :: r).foldl (fun a c => seF a (S.2 89 c)) a))) M → T (h + 1) mdX11_codes 110 [(0, .ref 29), (2, .int a), (3, .int (Int32.ofNat c))] [] M Q := by
  obtain ⟨F, h4, b2, b3, b4, b5, b6⟩ := id hB
  intro r
  have step : ∀ (r : List Nat) (c : Nat) (a : Int32), c < 2800 → T (h + 1) mdX11_codes 110 [(0, .ref 29), (2, .int (seF a (S.2 89 c))), (3, .int (S.2 84 c))] [] M Q → T (h + 1) mdX11_codes 110 [(0, .ref 29), (2, .int a), (3, .int (Int32.ofNat c))] [] M Q := by
    intro r c a hc H
    have lc : (Int32.ofNat c).toNatClampNeg = c := lt32 (by omega)
    have vc : ∀ {k : Nat}, k = 2800 → vp_in (Int32.ofNat c) k := fun e => by rw [e]; exact vp_of hc (by decide)
    have m84 : mAI M 84 c = S.2 84 c := by rw [b4 84 (by decide) (by decide)]
    have m89 : mAI M 89 c = S.2 89 c := by rw [b4 89 (by decide) (by decide)]
    refine VX11_codes_110 ?_
    unfold DX11_codes_110 DX11_codes_135
    rw [lc]
    refine ⟨fun z => absurd z (nm32 (by omega)), fun _ => ⟨fun z => ⟨ok29 F, 84, rf29_66 F, ok84 F, vc (ln84 F), ?_⟩, fun z => ⟨ok29 F, 89, rf29_71 F, ok89 F, vc (ln89 F), ok29 F, 84, rf29_66 F, ok84 F, vc (ln84 F), ?_⟩⟩⟩
    · rw [m84]
      unfold seF at H
      rw [if_pos z] at H
      exact H
    · rw [m84, m89]
      unfold seF at H
      rw [if_neg z] at H
      exact H
  induction r with
  | nil =>
    intro c a hn hl H
    refine step [] c a (hl c List.mem_cons_self) ?_
    have hn : S.2 84 c = -1 := hn
    rw [hn]
    refine VX11_codes_110 ?_
    unfold DX11_codes_110
    exact ⟨fun _ => H, fun z => absurd rfl z⟩
  | cons d r ih =>
    intro c a hn hl H
    refine step (d :: r) c a (hl c List.mem_cons_self) ?_
    rw [hn.1]
    exact ih d _ hn.2 (fun z hz => hl z (List.mem_cons_of_mem _ hz)) H
theorem cd_all (hB : BuM m A pn S M) : ∀ (r : List Nat) (a x3 : Int32), (match r with | [] => x3 = -1 | c :: t => x3 = Int32.ofNat c ∧ NxC S.2 c t) → (∀ z ∈ r, z < 2800) → Q (some (.int (r.foldl (fun a c => pjF a (S.2 89 c)) a))) M → T (h + 2) mdX11_codes 180 [(0, .ref 29), (2, .int a), (3, .int x3)] [] M Q := by
  obtain ⟨F, h4, b2, b3, b4, b5, b6⟩ := id hB
  intro r
  induction r with
  | nil =>
    intro a x3 hn hl H
    have hn : x3 = -1 := hn
    subst hn
    refine VX11_codes_180 ?_
    unfold DX11_codes_180
    exact ⟨fun _ => H, fun z => absurd rfl z⟩
  | cons c t ih =>
    intro a x3 hn hl H
    obtain ⟨e3, hn⟩ := hn
    subst e3
    have hc := hl c List.mem_cons_self
    have lc : (Int32.ofNat c).toNatClampNeg = c := lt32 (by omega)
    have vc : ∀ {k : Nat}, k = 2800 → vp_in (Int32.ofNat c) k := fun e => by rw [e]; exact vp_of hc (by decide)
    have m84 : mAI M 84 c = S.2 84 c := by rw [b4 84 (by decide) (by decide)]
    have m89 : mAI M 89 c = S.2 89 c := by rw [b4 89 (by decide) (by decide)]
    have H : Q (some (.int (t.foldl (fun a c => pjF a (S.2 89 c)) (pjF a (S.2 89 c))))) M := H
    have next : ∀ w : Int32, w = pjF a (S.2 89 c) → DX11_codes_250 (h + 1) 29 (Int32.ofNat c) w M Q := by
      intro w ew
      unfold DX11_codes_250
      rw [lc]
      refine ⟨ok29 F, 84, rf29_66 F, ok84 F, vc (ln84 F), ?_⟩
      rw [m84, ew]
      refine ih (pjF a (S.2 89 c)) _ ?_ (fun z hz => hl z (List.mem_cons_of_mem _ hz)) H
      cases t with
      | nil => exact hn
      | cons d t => exact hn
    have d217 : ∀ l : Nat, l = (if lwI a ≤ lwI (S.2 89 c) then lwI (S.2 89 c) else lwI a) → DX11_codes_217 (h + 1) 29 a (Int32.ofNat c) (Int32.ofNat l) M Q := by
      intro l el
      unfold DX11_codes_217 DX11_codes_232
      rw [lc]
      refine ⟨fun z => next 0 (by unfold pjF; rw [if_pos (Or.inl z)]), fun z => ⟨ok29 F, 89, rf29_71 F, ok89 F, vc (ln89 F), ?_⟩⟩
      rw [m89]
      refine ⟨fun z2 => ⟨89, rf29_71 F, ok89 F, vc (ln89 F), ?_⟩, fun z2 => next 0 (by unfold pjF; rw [if_pos (Or.inr z2)])⟩
      rw [m89]
      refine next _ ?_
      unfold pjF
      rw [if_neg (by rintro (w | w); exact z w; exact z2 w), ← el]
    have lb : ∀ x : Int32, lwI x ≤ 30 := by
      intro x
      have g : ∀ f k, f + k = 30 → lwF x f k ≤ 30 := by
        intro f
        induction f with
        | zero => intro k hk; unfold lwF; omega
        | succ f ih2 =>
          intro k hk
          unfold lwF
          split
          · exact ih2 (k + 1) (by omega)
          · omega
      exact g 30 0 rfl
    refine VX11_codes_180 ?_
    unfold DX11_codes_180
    rw [lc]
    refine ⟨fun z => absurd z (nm32 (by omega)), fun _ => G_low (fun _ => ⟨_, rfl, ok29 F, 89, rf29_71 F, ok89 F, vc (ln89 F), ?_⟩)⟩
    rw [m89]
    refine G_low (fun _ => ⟨_, rfl, fun z => ⟨89, rf29_71 F, ok89 F, vc (ln89 F), ?_⟩, fun z => G_low (fun _ => ⟨_, rfl, d217 _ ?_⟩)⟩)
    · rw [m89]
      rw [le32 (by have := lb a; omega) (by have := lb (S.2 89 c); omega)] at z
      exact G_low (fun _ => ⟨_, rfl, d217 _ (by rw [if_pos z])⟩)
    · rw [le32 (by have := lb a; omega) (by have := lb (S.2 89 c); omega)] at z
      rw [if_neg z]
end
