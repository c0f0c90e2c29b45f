/-! the reference's areAlike and part1 -/
/-- two STATES' MOVES v are alike -/
def alV (M : Mem) (m : Nat) (o : Int32) (a b v : Nat) : Prop := ((¬ mAI M 129 (32 * (48 * m + a) + v) < 0 ∧ ¬ mAI M 129 (32 * (48 * m + b) + v) < 0 ∧ mAI M 128 (48 * m + (mAI M 129 (32 * (48 * m + a) + v)).toNatClampNeg) = mAI M 128 (48 * m + (mAI M 129 (32 * (48 * m + b) + v)).toNatClampNeg)) ∨ (mAI M 129 (32 * (48 * m + a) + v) < 0 ∧ mAI M 129 (32 * (48 * m + a) + v) = mAI M 129 (32 * (48 * m + b) + v))) ∧ mAI M 130 (32 * (48 * m + a) + v) &&& o = mAI M 130 (32 * (48 * m + b) + v) &&& o
def alkR (M : Mem) (m t : Nat) (o : Int32) (a b : Nat) : Prop := mAI M 128 (48 * m + a) = mAI M 128 (48 * m + b) ∧ ∀ v, v < 2 ^ t → alV M m o a b v
section
variable {M M1 M' : Mem} {m n s t h a b : Nat} {o : Int32} {Q : Option Value → Mem → Prop}
theorem alV.rf {v : Nat} : alV M m o a a v := by
  refine ⟨?_, rfl⟩
  by_cases z : mAI M 129 (32 * (48 * m + a) + v) < 0
  · exact Or.inr ⟨z, rfl⟩
  · exact Or.inl ⟨z, z, rfl⟩
theorem LdO.at {j : Nat} (h : LdO M) (hz : ¬ mAI M 129 j < 0) : ∃ c, c < 48 ∧ mAI M 129 j = Int32.ofNat c := (h j).resolve_left hz
theorem R_alike (F : Fix M) (h4 : m < 4) (hL : LdO M) (hf : FrE M m t) (t5 : t ≤ 5) (ha : a < 48) (hb : b < 48) (K : ∀ r : Int32, (r = 0 ∨ r = 1) → (r = 1 ↔ alkR M m t o a b) → Q (some (.int r)) M) : E (h + 2) mdX11_areAlike [.ref 29, .int (Int32.ofNat m), .int (Int32.ofNat a), .int (Int32.ofNat b), .int o] M Q := by
  obtain ⟨p1, p2⟩ := pw_le t5
  have e48 : ∀ q : Nat, 48 * Int32.ofNat m + Int32.ofNat q = Int32.ofNat (48 * m + q) := fun q => by rw [Int32.ofNat_add, Int32.ofNat_mul]; rfl
  have l48 : ∀ q : Nat, q < 48 → (Int32.ofNat (48 * m + q)).toNatClampNeg = 48 * m + q := fun q hq => lt32 (by omega)
  have v48 : ∀ {k : Nat} (q : Nat), q < 48 → k = 192 → vp_in (Int32.ofNat (48 * m + q)) k := fun q hq e => by rw [e]; exact vp_of (by omega) (by decide)
  have main : ∀ d v (r : Int32), v + d = 2 ^ t → (r = 0 ∨ r = 1) → (r = 1 ↔ (mAI M 128 (48 * m + a) = mAI M 128 (48 * m + b) ∧ ∀ u, u < v → alV M m o a b u)) → T (h + 2) mdX11_areAlike 35 [(0, .ref 29), (1, .int (Int32.ofNat m)), (2, .int (Int32.ofNat a)), (3, .int (Int32.ofNat b)), (4, .int o), (5, .int r), (6, .int (Int32.ofNat v))] [] M Q := by
    intro d
    induction d with
    | zero =>
      intro v r hv hr hi
      have ev : v = 2 ^ t := by omega
      subst ev
      refine VX11_areAlike_35 (h := h + 1) ?_
      unfold DX11_areAlike_35 DX11_areAlike_210
      exact ⟨ok29 F, R_moves (h := h) F h4 hf t5 (fun _ => ⟨_, rfl, fun _ => ⟨hr, K r hr hi⟩, fun z => absurd Int32.le_rfl z⟩)⟩
    | succ d ih =>
      intro v r hv hr hi
      have nle : ¬ Int32.ofNat (2 ^ t) ≤ Int32.ofNat v := fun z => by
        have := (le32 (by omega) (by omega)).mp z
        omega
      refine VX11_areAlike_35 (h := h + 1) ?_
      unfold DX11_areAlike_35 DX11_areAlike_210
      refine ⟨ok29 F, R_moves (h := h) F h4 hf t5 (fun _ => ⟨_, rfl, fun z => absurd z nle, fun _ => ⟨fun z => ⟨hr, K r hr ⟨fun y => ?_, fun y => ?_⟩⟩, fun nz => ?_⟩⟩)⟩
      · rw [z] at y; exact absurd y (by decide)
      · exact hi.mpr ⟨y.1, fun u hu => y.2 u (by omega)⟩
      have r1 : r = 1 := hr.resolve_left nz
      obtain ⟨i1, i2⟩ := hi.mp r1
      have ea : 32 * Int32.ofNat (48 * m + a) + Int32.ofNat v = Int32.ofNat (32 * (48 * m + a) + v) := ix32
      have eb : 32 * Int32.ofNat (48 * m + b) + Int32.ofNat v = Int32.ofNat (32 * (48 * m + b) + v) := ix32
      have la : (Int32.ofNat (32 * (48 * m + a) + v)).toNatClampNeg = 32 * (48 * m + a) + v := lt32 (by omega)
      have lb : (Int32.ofNat (32 * (48 * m + b) + v)).toNatClampNeg = 32 * (48 * m + b) + v := lt32 (by omega)
      have va : ∀ {k : Nat}, k = 6144 → vp_in (Int32.ofNat (32 * (48 * m + a) + v)) k := fun e => by rw [e]; exact vp_of (by omega) (by decide)
      have vb : ∀ {k : Nat}, k = 6144 → vp_in (Int32.ofNat (32 * (48 * m + b) + v)) k := fun e => by rw [e]; exact vp_of (by omega) (by decide)
      have go : ∀ q : Int32, (q = 0 ∨ q = 1) → (q = 1 ↔ alV M m o a b v) → T (h + 2) mdX11_areAlike 35 [(0, .ref 29), (1, .int (Int32.ofNat m)), (2, .int (Int32.ofNat a)), (3, .int (Int32.ofNat b)), (4, .int o), (5, .int q), (6, .int (Int32.ofNat v + 1))] [] M Q := by
        intro q hq hqi
        rw [succ32]
        refine ih (v + 1) q (by omega) hq ⟨fun y => ⟨i1, fun u hu => ?_⟩, fun y => hqi.mpr (y.2 v (by omega))⟩
        by_cases z : u = v
        · rw [z]; exact hqi.mp y
        · exact i2 u (by omega)
      have d201 : ¬ alV M m o a b v → DX11_areAlike_201 (h + 1) 29 (Int32.ofNat m) (Int32.ofNat a) (Int32.ofNat b) o (Int32.ofNat v) M Q := fun na => by
        unfold DX11_areAlike_201 DX11_areAlike_202
        exact go 0 (Or.inl rfl) ⟨fun z => absurd z (by decide), fun z => absurd z na⟩
      have d174 : ((¬ mAI M 129 (32 * (48 * m + a) + v) < 0 ∧ ¬ mAI M 129 (32 * (48 * m + b) + v) < 0 ∧ mAI M 128 (48 * m + (mAI M 129 (32 * (48 * m + a) + v)).toNatClampNeg) = mAI M 128 (48 * m + (mAI M 129 (32 * (48 * m + b) + v)).toNatClampNeg)) ∨ (mAI M 129 (32 * (48 * m + a) + v) < 0 ∧ mAI M 129 (32 * (48 * m + a) + v) = mAI M 129 (32 * (48 * m + b) + v))) → DX11_areAlike_174 (h + 1) 29 (Int32.ofNat m) (Int32.ofNat a) (Int32.ofNat b) o (Int32.ofNat v) (Int32.ofNat (32 * (48 * m + a) + v)) (Int32.ofNat (32 * (48 * m + b) + v)) M Q := fun w => by
        unfold DX11_areAlike_174 DX11_areAlike_202
        rw [la, lb]
        exact ⟨ok29 F, 130, rf29_122 F, ok130 F, va (ln130 F), 130, rf29_122 F, ok130 F, vb (ln130 F), fun ne => d201 (fun y => ne y.2), fun eq => go 1 (Or.inr rfl) ⟨fun _ => ⟨w, eq⟩, fun _ => rfl⟩⟩
      have d140 : ¬ (¬ mAI M 129 (32 * (48 * m + a) + v) < 0 ∧ ¬ mAI M 129 (32 * (48 * m + b) + v) < 0 ∧ mAI M 128 (48 * m + (mAI M 129 (32 * (48 * m + a) + v)).toNatClampNeg) = mAI M 128 (48 * m + (mAI M 129 (32 * (48 * m + b) + v)).toNatClampNeg)) → DX11_areAlike_139 (h + 1) 29 (Int32.ofNat m) (Int32.ofNat a) (Int32.ofNat b) o (Int32.ofNat v) (Int32.ofNat (32 * (48 * m + a) + v)) (Int32.ofNat (32 * (48 * m + b) + v)) M Q := fun w => by
        unfold DX11_areAlike_139 DX11_areAlike_140
        rw [la, lb]
        refine ⟨fun z => absurd rfl z, fun _ => ⟨ok29 F, 129, rf29_121 F, ok129 F, va (ln129 F), fun z0 => d201 (fun y => ?_), fun z0 => ⟨129, rf29_121 F, ok129 F, va (ln129 F), 129, rf29_121 F, ok129 F, vb (ln129 F), fun ne => d201 (fun y => ?_), fun eq => d174 (Or.inr ⟨Int32.not_le.mp z0, eq⟩)⟩⟩⟩
        · rcases y.1 with y | y
          · exact w y
          · exact absurd y.1 (Int32.not_lt.mpr z0)
        · rcases y.1 with y | y
          · exact w y
          · exact ne y.2
      rw [e48, e48, ea, eb, la, lb]
      refine ⟨129, rf29_121 F, ok129 F, va (ln129 F), fun z1 => d140 (fun y => y.1 z1), fun z1 => ⟨129, rf29_121 F, ok129 F, vb (ln129 F), fun z2 => d140 (fun y => y.2.1 z2), fun z2 => ?_⟩⟩
      obtain ⟨c1, c1l, c1e⟩ := hL.at z1
      obtain ⟨c2, c2l, c2e⟩ := hL.at z2
      have q1 : (mAI M 129 (32 * (48 * m + a) + v)).toNatClampNeg = c1 := by rw [c1e]; exact lt32 (by omega)
      have q2 : (mAI M 129 (32 * (48 * m + b) + v)).toNatClampNeg = c2 := by rw [c2e]; exact lt32 (by omega)
      refine ⟨128, rf29_120 F, 129, rf29_121 F, ok129 F, va (ln129 F), ok128 F, by rw [c1e, e48]; exact v48 c1 c1l (ln128 F), 128, rf29_120 F, 129, rf29_121 F, ok129 F, vb (ln129 F), ok128 F, by rw [c2e, e48]; exact v48 c2 c2l (ln128 F), ?_⟩
      have i1' : (48 * Int32.ofNat m + mAI M 129 (32 * (48 * m + a) + v)).toNatClampNeg = 48 * m + (mAI M 129 (32 * (48 * m + a) + v)).toNatClampNeg := by rw [q1, c1e, e48]; exact l48 c1 c1l
      have i2' : (48 * Int32.ofNat m + mAI M 129 (32 * (48 * m + b) + v)).toNatClampNeg = 48 * m + (mAI M 129 (32 * (48 * m + b) + v)).toNatClampNeg := by rw [q2, c2e, e48]; exact l48 c2 c2l
      rw [i1', i2']
      refine ⟨fun ne => d140 (fun y => ne y.2.2), fun eq => ?_⟩
      unfold DX11_areAlike_140
      exact ⟨fun _ => d174 (Or.inl ⟨z1, z2, eq⟩), fun z => absurd z (by decide)⟩
  refine KX11_areAlike (h := h + 1) ?_
  unfold DX11_areAlike_0 DX11_areAlike_30
  rw [e48, e48, l48 a ha, l48 b hb]
  refine ⟨ok29 F, 128, rf29_120 F, ok128 F, v48 a ha (ln128 F), 128, rf29_120 F, ok128 F, v48 b hb (ln128 F), fun ne => ?_, fun eq => ?_⟩
  · exact main (2 ^ t) 0 0 (by omega) (Or.inl rfl) ⟨fun z => absurd z (by decide), fun z => absurd z.1 ne⟩
  · exact main (2 ^ t) 0 1 (by omega) (Or.inr rfl) ⟨fun _ => ⟨eq, fun u hu => absurd hu (Nat.not_lt_zero _)⟩, fun _ => rfl⟩
/-- how far classes are from being parted wholly -/
def wgS (f : Nat → Nat) : Nat → Nat
  | 0 => 0
  | n + 1 => wgS f n + (n - f n)
theorem wgS_le {f g : Nat → Nat} : ∀ n, (∀ s, s < n → f s ≤ g s ∧ g s ≤ s) → wgS g n ≤ wgS f n
  | 0, _ => Nat.le_refl _
  | n + 1, h => by
    have h1 := wgS_le n (fun s hs => h s (by omega))
    have h2 := h n (by omega)
    show wgS g n + (n - g n) ≤ wgS f n + (n - f n)
    omega
theorem wgS_lt {f g : Nat → Nat} : ∀ n, (∀ s, s < n → f s ≤ g s ∧ g s ≤ s) → (∃ s, s < n ∧ f s < g s) → wgS g n < wgS f n
  | 0, _, ⟨s, hs, _⟩ => absurd hs (Nat.not_lt_zero _)
  | n + 1, h, ⟨s, hs, hl⟩ => by
    have h1 := wgS_le n (fun s hs => h s (by omega))
    have h2 := h n (by omega)
    show wgS g n + (n - g n) < wgS f n + (n - f n)
    by_cases z : s = n
    · subst z; omega
    · have := wgS_lt n (fun s hs => h s (by omega)) ⟨s, by omega, hl⟩
      omega
/-- classes of n STATES -/
def ClF (M : Mem) (m n : Nat) (f : Nat → Nat) : Prop := ∀ s, s < n → mAI M 128 (48 * m + s) = Int32.ofNat (f s) ∧ f s ≤ s
theorem R_part1 {S : Nat} (F : Fix M) (h4 : m < 4) (hr : SrI M m n) (hL : LdO M) (hf : FrE M m t) (t5 : t ≤ 5) (eS : mAI M 34 m = Int32.ofNat S) (hS : S ≤ 16) (K : ∀ M' f, SkF m M M' → (∀ c, c ≤ 127 ∨ c = 129 ∨ c = 130 → mAI M' c = mAI M c) → ClF M' m n f → mI M' 29 = mI M 29 → Q none M') : E (h + 3) mdX11_part1 [.ref 29, .int (Int32.ofNat m)] M Q := by
  have n48 : n ≤ 48 := hr.2.1.2
  have lm : (Int32.ofNat m).toNatClampNeg = m := lt32 (by omega)
  have vm : ∀ {k : Nat}, k = 4 → vp_in (Int32.ofNat m) k := fun e => by rw [e]; exact vp_of (by omega) (by decide)
  have e48 : ∀ q : Nat, 48 * Int32.ofNat m + Int32.ofNat q = Int32.ofNat (48 * m + q) := fun q => by rw [Int32.ofNat_add, Int32.ofNat_mul]; rfl
  have l48 : ∀ q : Nat, q < 48 → (Int32.ofNat (48 * m + q)).toNatClampNeg = 48 * m + q := fun q hq => lt32 (by omega)
  have v48 : ∀ {k : Nat} (q : Nat), q < 48 → k = 192 → vp_in (Int32.ofNat (48 * m + q)) k := fun q hq e => by rw [e]; exact vp_of (by omega) (by decide)
  have v1 : ∀ {k : Nat} (q : Nat), q < 48 → k = 48 → vp_in (Int32.ofNat q) k := fun q hq e => by rw [e]; exact vp_of (by omega) (by decide)
  -- what stays
  have st : ∀ M1, (∀ c, c ≤ 127 ∨ c = 129 ∨ c = 130 → mAI M1 c = mAI M c) → SkF m M M1 → Fix M1 ∧ mAI M1 123 m = Int32.ofNat n ∧ LdO M1 ∧ FrE M1 m t := fun M1 r1 k1 => ⟨k1.fix F, by rw [r1 123 (by omega)]; exact hr.1, hL.k (r1 129 (by omega)), hf.sk k1⟩
  have r128 : ∀ {M1 M2 : Mem} {k : Nat} {v : Int32} {b : Nat}, (∀ c, c ≤ 127 ∨ c = 129 ∨ c = 130 → mAI M1 c = mAI M c) → (b = 128 ∨ b = 131) → M2 = wAI M1 b k v → ∀ c, c ≤ 127 ∨ c = 129 ∨ c = 130 → mAI M2 c = mAI M c := fun {M1 M2 k v b} r1 hb e c hc => by
    rw [e]
    exact (up2_row (by omega)).trans (r1 c hc)
  have rnd : ∀ (x2 : Int32) (f : Nat → Nat) M1, (∀ c, c ≤ 127 ∨ c = 129 ∨ c = 130 → mAI M1 c = mAI M c) → SkF m M M1 → mI M1 29 = mI M 29 → ClF M1 m n f → (∀ g M5 (x3 : Int32), (∀ s, s < n → f s ≤ g s ∧ g s ≤ s) → (x3 = 0 ∨ (x3 = 1 ∧ ∃ s, s < n ∧ f s < g s)) → (∀ c, c ≤ 127 ∨ c = 129 ∨ c = 130 → mAI M5 c = mAI M c) → SkF m M M5 → mI M5 29 = mI M 29 → ClF M5 m n g → T (h + 3) mdX11_part1 77 [(0, .ref 29), (1, .int (Int32.ofNat m)), (2, .int x2), (3, .int x3)] [] M5 Q) → T (h + 3) mdX11_part1 86 [(0, .ref 29), (1, .int (Int32.ofNat m)), (2, .int x2), (3, .int 0), (4, .int (Int32.ofNat 0))] [] M1 Q := by
    intro x2 f M1 r1 k1 g1 hC H
    -- the new classes are laid down
    have l137 : ∀ d s (x3 : Int32) (g : Nat → Nat) M3, s + d = n → (∀ q, q < n → f q ≤ g q ∧ g q ≤ q) → (∀ c, c ≤ 127 ∨ c = 129 ∨ c = 130 → mAI M3 c = mAI M c) → SkF m M M3 → mI M3 29 = mI M 29 → (∀ q, q < n → mAI M3 131 q = Int32.ofNat (g q)) → (∀ q, q < n → mAI M3 128 (48 * m + q) = Int32.ofNat (if q < s then g q else f q)) → (x3 = 0 ∨ (x3 = 1 ∧ ∃ q, q < n ∧ f q < g q)) → T (h + 3) mdX11_part1 137 [(0, .ref 29), (1, .int (Int32.ofNat m)), (2, .int x2), (3, .int x3), (4, .int (Int32.ofNat s))] [] M3 Q := by
      intro d
      induction d with
      | zero =>
        intro s x3 g M3 hs fg r3 k3 g3 n3 c3 hx
        obtain ⟨F3, e3, -, -⟩ := st M3 r3 k3
        refine VX11_part1_137 (h := h + 2) ?_
        unfold DX11_part1_137
        refine ⟨ok29 F3, 123, rf29_115 F3, ok123 F3, vm (ln123 F3), ?_⟩
        rw [lm, e3]
        refine ⟨fun _ => H g M3 x3 fg hx r3 k3 g3 (fun q hq => ⟨?_, (fg q hq).2⟩), fun z => absurd ((le32 (by omega) (by omega)).mpr (by omega)) z⟩
        rw [c3 q hq, if_pos (by omega)]
      | succ d ih =>
        intro s x3 g M3 hs fg r3 k3 g3 n3 c3 hx
        obtain ⟨F3, e3, -, -⟩ := st M3 r3 k3
        have sn : s < n := by omega
        have lq : (Int32.ofNat s).toNatClampNeg = s := lt32 (by omega)
        have nx : ∀ x3 : Int32, (x3 = 0 ∨ (x3 = 1 ∧ ∃ q, q < n ∧ f q < g q)) → DX11_part1_179 (h + 2) 29 (Int32.ofNat m) x2 (Int32.ofNat s) x3 M3 Q := by
          intro x3 hx
          unfold DX11_part1_179
          rw [e48, l48 s (by omega), lq, succ32]
          refine ⟨ok29 F3, 128, rf29_120 F3, 131, rf29_125 F3, ok131 F3, v1 s (by omega) (ln131 F3), ok128 F3, v48 s (by omega) (ln128 F3), fun M6 e6 => ?_⟩
          rw [n3 s sn] at e6
          refine ih (s + 1) x3 g M6 (by omega) fg (r128 r3 (Or.inl rfl) e6) (k3.tr (SkF.ai (c := 128) (k := 48 * m + s) (by unfold skA; omega) e6)) (by rw [e6]; exact g3) (fun q hq => ?_) (fun q hq => ?_) hx
          · rw [e6, mAI_wAI, if_neg (fun y => absurd y.1 (by decide))]; exact n3 q hq
          · rw [e6, mAI_wAI]
            by_cases z : q = s
            · rw [if_pos ⟨rfl, by omega⟩, if_pos (by omega), z]
            · rw [if_neg (fun y => z (by have := y.2; omega)), c3 q hq]
              by_cases y : q < s
              · rw [if_pos y, if_pos (by omega)]
              · rw [if_neg y, if_neg (by omega)]
        refine VX11_part1_137 (h := h + 2) ?_
        unfold DX11_part1_137 DX11_part1_174
        refine ⟨ok29 F3, 123, rf29_115 F3, ok123 F3, vm (ln123 F3), ?_⟩
        rw [lm, e3, e48, l48 s (by omega), lq]
        refine ⟨fun z => absurd ((le32 (by omega) (by omega)).mp z) (by omega), fun _ => ⟨fun z => nx 1 (Or.inr ⟨rfl, (hx.resolve_left z).2⟩), fun z => ⟨128, rf29_120 F3, ok128 F3, v48 s (by omega) (ln128 F3), 131, rf29_125 F3, ok131 F3, v1 s (by omega) (ln131 F3), fun _ => nx 0 (Or.inl rfl), fun y => nx 1 (Or.inr ⟨rfl, s, sn, ?_⟩)⟩⟩⟩
        rw [n3 s sn, c3 s sn, if_neg (Nat.lt_irrefl s)] at y
        have q := fg s sn
        rcases Nat.lt_or_ge (f s) (g s) with w | w
        · exact w
        · exact absurd (by rw [show f s = g s by omega]) y
    -- the new classes are found
    have l86 : ∀ d s (g : Nat → Nat) M3, s + d = n → (∀ q, q < s → f q ≤ g q ∧ g q ≤ q) → (∀ c, c ≤ 127 ∨ c = 129 ∨ c = 130 → mAI M3 c = mAI M c) → mAI M3 128 = mAI M1 128 → SkF m M M3 → mI M3 29 = mI M 29 → (∀ q, q < s → mAI M3 131 q = Int32.ofNat (g q)) → T (h + 3) mdX11_part1 86 [(0, .ref 29), (1, .int (Int32.ofNat m)), (2, .int x2), (3, .int 0), (4, .int (Int32.ofNat s))] [] M3 Q := by
      intro d
      induction d with
      | zero =>
        intro s g M3 hs fg r3 q3 k3 g3 n3
        have es : s = n := by omega
        subst es
        obtain ⟨F3, e3, -, -⟩ := st M3 r3 k3
        refine VX11_part1_86 (h := h + 2) ?_
        unfold DX11_part1_86
        refine ⟨ok29 F3, 123, rf29_115 F3, ok123 F3, vm (ln123 F3), ?_⟩
        rw [lm, e3]
        refine ⟨fun _ => l137 s 0 0 g M3 (by omega) fg r3 k3 g3 n3 (fun q hq => ?_) (Or.inl rfl), fun z => absurd Int32.le_rfl z⟩
        rw [q3, if_neg (Nat.not_lt_zero _)]
        exact (hC q hq).1
      | succ d ih =>
        intro s g M3 hs fg r3 q3 k3 g3 n3
        have sn : s < n := by omega
        obtain ⟨F3, e3, hL3, hf3⟩ := st M3 r3 k3
        have lq : (Int32.ofNat s).toNatClampNeg = s := lt32 (by omega)
        have l100 : ∀ e c, c + e = s → T (h + 3) mdX11_part1 100 [(0, .ref 29), (1, .int (Int32.ofNat m)), (2, .int x2), (3, .int 0), (4, .int (Int32.ofNat s)), (5, .int (Int32.ofNat c))] [] M3 Q := by
          intro e
          induction e with
          | zero =>
            intro c hc
            have ec : c = s := by omega
            subst ec
            refine VX11_part1_100 (h := h + 2) ?_
            unfold DX11_part1_100
            refine ⟨ok29 F3, R_alike (h := h) F3 h4 hL3 hf3 t5 (by omega) (by omega) (fun r hr hi _ => ⟨r, rfl, fun _ => ⟨131, rf29_125 F3, ok131 F3, v1 c (by omega) (ln131 F3), fun M6 e6 => ?_⟩, fun z => ?_⟩)⟩
            · rw [lq] at e6
              rw [succ32]
              refine ih (c + 1) (fun q => if q = c then c else g q) M6 (by omega) (fun q hq => ?_) (r128 r3 (Or.inr rfl) e6) ((aiN e6 (by decide)).trans q3) (k3.tr (SkF.ai9 e6)) (by rw [e6]; exact g3) (fun q hq => ?_)
              · by_cases z : q = c
                · rw [if_pos z, z]; exact ⟨(hC c sn).2, Nat.le_refl _⟩
                · rw [if_neg z]; exact fg q (by omega)
              · rw [e6, mAI_wAI]
                by_cases z : q = c
                · rw [if_pos ⟨rfl, z⟩, if_pos z]
                · rw [if_neg (fun y => z y.2), if_neg z]; exact n3 q (by omega)
            · rw [hi.mpr ⟨rfl, fun v _ => alV.rf⟩] at z
              exact absurd z (by decide)
          | succ e ihe =>
            intro c hc
            refine VX11_part1_100 (h := h + 2) ?_
            unfold DX11_part1_100
            refine ⟨ok29 F3, R_alike (h := h) F3 h4 hL3 hf3 t5 (by omega) (by omega) (fun r hr hi _ => ⟨r, rfl, fun z => ⟨131, rf29_125 F3, ok131 F3, v1 s (by omega) (ln131 F3), fun M6 e6 => ?_⟩, fun z => ?_⟩)⟩
            · rw [lq] at e6
              rw [succ32]
              have al := (hi.mp (hr.resolve_left z)).1
              rw [q3, (hC c (by omega)).1, (hC s sn).1] at al
              have e9 : f c = f s := by
                have b1 := (hC c (by omega)).2
                have b2 := (hC s sn).2
                exact inj32 (by omega) (by omega) al
              refine ih (s + 1) (fun q => if q = s then c else g q) M6 (by omega) (fun q hq => ?_) (r128 r3 (Or.inr rfl) e6) ((aiN e6 (by decide)).trans q3) (k3.tr (SkF.ai9 e6)) (by rw [e6]; exact g3) (fun q hq => ?_)
              · by_cases z : q = s
                · rw [if_pos z, z, ← e9]; exact ⟨(hC c (by omega)).2, by omega⟩
                · rw [if_neg z]; exact fg q (by omega)
              · rw [e6, mAI_wAI]
                by_cases z : q = s
                · rw [if_pos ⟨rfl, z⟩, if_pos z]
                · rw [if_neg (fun y => z y.2), if_neg z]; exact n3 q (by omega)
            · rw [succ32]
              exact ihe (c + 1) (by omega)
        refine VX11_part1_86 (h := h + 2) ?_
        unfold DX11_part1_86
        refine ⟨ok29 F3, 123, rf29_115 F3, ok123 F3, vm (ln123 F3), ?_⟩
        rw [lm, e3]
        exact ⟨fun z => absurd ((le32 (by omega) (by omega)).mp z) (by omega), fun _ => l100 s 0 (by omega)⟩
    exact l86 n 0 (fun _ => 0) M1 (by omega) (fun q hq => absurd hq (Nat.not_lt_zero _)) r1 rfl k1 g1 (fun q hq => absurd hq (Nat.not_lt_zero _))
  have l77 : ∀ w (x2 x3 : Int32) (f : Nat → Nat) M1, wgS f n ≤ w → (∀ c, c ≤ 127 ∨ c = 129 ∨ c = 130 → mAI M1 c = mAI M c) → SkF m M M1 → mI M1 29 = mI M 29 → ClF M1 m n f → T (h + 3) mdX11_part1 77 [(0, .ref 29), (1, .int (Int32.ofNat m)), (2, .int x2), (3, .int x3)] [] M1 Q := by
    intro w
    induction w with
    | zero =>
      intro x2 x3 f M1 hw r1 k1 g1 hC
      refine VX11_part1_77 (h := h + 2) ?_
      unfold DX11_part1_77
      refine ⟨fun _ => K M1 f k1 r1 hC g1, fun _ => rnd x2 f M1 r1 k1 g1 hC (fun g M5 x5 fg hx r5 k5 g5 C5 => ?_)⟩
      rcases hx with hx | ⟨-, hq⟩
      · rw [hx]
        refine VX11_part1_77 (h := h + 2) ?_
        unfold DX11_part1_77
        exact ⟨fun _ => K M5 g k5 r5 C5 g5, fun z => absurd rfl z⟩
      · exact absurd (wgS_lt n fg hq) (by omega)
    | succ w ih =>
      intro x2 x3 f M1 hw r1 k1 g1 hC
      refine VX11_part1_77 (h := h + 2) ?_
      unfold DX11_part1_77
      refine ⟨fun _ => K M1 f k1 r1 hC g1, fun _ => rnd x2 f M1 r1 k1 g1 hC (fun g M5 x5 fg hx r5 k5 g5 C5 => ?_)⟩
      rcases hx with hx | ⟨-, hq⟩
      · rw [hx]
        refine VX11_part1_77 (h := h + 2) ?_
        unfold DX11_part1_77
        exact ⟨fun _ => K M5 g k5 r5 C5 g5, fun z => absurd rfl z⟩
      · exact ih x2 x5 g M5 (by have := wgS_lt n fg hq; omega) r5 k5 g5 C5
  have l47 : ∀ d s (x2 : Int32) M1, s + d = n → (∀ c, c ≤ 127 ∨ c = 129 ∨ c = 130 → mAI M1 c = mAI M c) → SkF m M M1 → mI M1 29 = mI M 29 → (∀ q, q < s → mAI M1 128 (48 * m + q) = Int32.ofNat 0) → T (h + 3) mdX11_part1 47 [(0, .ref 29), (1, .int (Int32.ofNat m)), (2, .int x2), (3, .int (Int32.ofNat s))] [] M1 Q := by
    intro d
    induction d with
    | zero =>
      intro s x2 M1 hs r1 k1 g1 c1
      have es : s = n := by omega
      subst es
      obtain ⟨F1, e1, -, -⟩ := st M1 r1 k1
      refine VX11_part1_47 (h := h + 2) ?_
      unfold DX11_part1_47
      refine ⟨ok29 F1, 123, rf29_115 F1, ok123 F1, vm (ln123 F1), ?_⟩
      rw [lm, e1]
      exact ⟨fun _ => l77 _ x2 1 (fun _ => 0) M1 (Nat.le_refl _) r1 k1 g1 (fun q hq => ⟨c1 q hq, Nat.zero_le _⟩), fun z => absurd Int32.le_rfl z⟩
    | succ d ih =>
      intro s x2 M1 hs r1 k1 g1 c1
      obtain ⟨F1, e1, -, -⟩ := st M1 r1 k1
      refine VX11_part1_47 (h := h + 2) ?_
      unfold DX11_part1_47
      refine ⟨ok29 F1, 123, rf29_115 F1, ok123 F1, vm (ln123 F1), ?_⟩
      rw [lm, e1, e48, l48 s (by omega), succ32]
      refine ⟨fun z => absurd ((le32 (by omega) (by omega)).mp z) (by omega), fun _ => ⟨128, rf29_120 F1, ok128 F1, v48 s (by omega) (ln128 F1), fun M6 e6 => ?_⟩⟩
      refine ih (s + 1) x2 M6 (by omega) (r128 r1 (Or.inl rfl) e6) (k1.tr (SkF.ai (c := 128) (k := 48 * m + s) (by unfold skA; omega) e6)) (by rw [e6]; exact g1) (fun q hq => ?_)
      rw [e6, mAI_wAI]
      by_cases z : q = s
      · rw [if_pos ⟨rfl, by omega⟩]; rfl
      · rw [if_neg (fun y => z (by have := y.2; omega))]; exact c1 q (by omega)
  have l4 : ∀ d s (x2 : Int32), s + d = S → T (h + 3) mdX11_part1 4 [(0, .ref 29), (1, .int (Int32.ofNat m)), (2, .int x2), (3, .int (Int32.ofNat s))] [] M Q := by
    intro d
    induction d with
    | zero =>
      intro s x2 hs
      have es : s = S := by omega
      subst es
      refine VX11_part1_4 (h := h + 2) ?_
      unfold DX11_part1_4
      refine ⟨ok29 F, 34, rf29_8 F, ok34 F, vm (ln34 F), ?_⟩
      rw [lm, eS]
      exact ⟨fun _ => l47 n 0 x2 M (by omega) (fun _ _ => rfl) SkF.rf rfl (fun q hq => absurd hq (Nat.not_lt_zero _)), fun z => absurd Int32.le_rfl z⟩
    | succ d ih =>
      intro s x2 hs
      have e16 : 16 * Int32.ofNat m + Int32.ofNat s = Int32.ofNat (16 * m + s) := by rw [Int32.ofNat_add, Int32.ofNat_mul]; rfl
      refine VX11_part1_4 (h := h + 2) ?_
      unfold DX11_part1_4 DX11_part1_37
      refine ⟨ok29 F, 34, rf29_8 F, ok34 F, vm (ln34 F), ?_⟩
      rw [lm, eS, e16, succ32]
      exact ⟨fun z => absurd ((le32 (by omega) (by omega)).mp z) (by omega), fun _ => ⟨38, rf29_12 F, ok38 F, by rw [ln38 F]; exact vp_of (by omega) (by decide), fun _ => ih (s + 1) _ (by omega), fun _ => ih (s + 1) _ (by omega)⟩⟩
  refine KX11_part1 (h := h + 2) ?_
  unfold DX11_part1_0
  exact l4 S 0 0 (by omega)
end
