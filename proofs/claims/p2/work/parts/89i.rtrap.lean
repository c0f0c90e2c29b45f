/-! the reference: open traps by name -/
theorem NmR.nz {b : Nat → Int32} {n : Nat} {c v : Int64} (h : NmR b n c v) : c ≠ 0 := by
  obtain ⟨p, hW, hc, -⟩ := h
  obtain ⟨a1, -, a3⟩ := WD_v hW
  obtain ⟨w1, w2, w3⟩ := hW
  have hL : 1 ≤ rnE isL b n p - p := by
    unfold rnE
    have := runF_pos (p := isL) (b := b) (k := n - p) (a := p) (by omega) w2
    omega
  obtain ⟨k, hk⟩ : ∃ k, rnE isL b n p - p = k + 1 := ⟨rnE isL b n p - p - 1, by omega⟩
  rw [hc, a1]
  intro z
  have hlt := val_lt (B := 32) (d := lt1 b p) (rnE isL b n p - p) (fun i hi => by have := (a3 i hi).2; omega)
  have hle : 32 ^ (rnE isL b n p - p) ≤ 32 ^ 10 := Nat.pow_le_pow_right (by decide) w3
  have hz := n64_inj (x := val 32 (lt1 b p) (rnE isL b n p - p)) (y := 0) (by have : (32 : Nat) ^ 10 = 1125899906842624 := (by decide); omega) (by decide) z
  rw [hk] at hz a3
  have h0 := (a3 k (by omega)).1
  unfold val at hz
  omega
/-- the open parts: which are traps, and their names -/
def KNm (b : Nat → Int32) (n m : Nat) (σ : PS) (K : List KE) : Prop := ∀ e ∈ K, (40 * m ≤ e.1 ∧ e.1 < 40 * m + npS σ) ∧ ((∃ c, e.2.2.2 = some c ∧ σ.1.2.1 58 e.1 = 12 ∧ NmR b n c (σ.1.2.2 e.1)) ∨ ((e.2.2.2 = none ∨ e.2.2.2 = some 0) ∧ σ.1.2.1 58 e.1 ≠ 12))
theorem KNm.pv {b : Nat → Int32} {n m : Nat} {σ σ' : PS} {K : List KE} (hK : KNm b n m σ K) (k : Pv m (40 * m + npS σ) σ σ') : KNm b n m σ' K := by
  intro e he
  obtain ⟨h1, h2⟩ := hK e he
  have e58 := k.2.2.1 58 (by decide) (by decide) (by decide) e.1 h1.2
  have en := k.2.2.2.1 e.1 h1.2
  have := k.1
  rw [e58, en]
  exact ⟨by omega, h2⟩
theorem rev_mid {l : List Nat} {x : Nat} : ∀ (pre : List Nat), (pre ++ x :: l).reverse.getD l.length 0 = x := by
  intro pre
  rw [List.getD_eq_getElem?_getD, List.reverse_append, List.reverse_cons, List.getElem?_append_left (by simp), List.getElem?_append_right (by simp)]
  simp
section
variable {b : Nat → Int32} {n s m : Nat} {τ : Td} {K : List KE} {σ : PS} {M M' : Mem} {i o h : Nat} {Q : Option Value → Mem → Prop}
def trI (K : List KE) (c : Int64) : Int32 := match trW K c with
  | none => -1
  | some r => Int32.ofNat r.2
theorem trW_n {e : KE} {c : Int64} (hn : e.2.2.2 = none) : trW (e :: K) c = trW K c := by simp only [trW, hn]
theorem trW_s {e : KE} {c x : Int64} (hn : e.2.2.2 = some x) : trW (e :: K) c = if x = c then some (0, e.1) else (trW K c).map (fun r => (r.1 + 1, r.2)) := by simp only [trW, hn]
theorem trI_skip {e : KE} {c : Int64} (hn : e.2.2.2 = none ∨ ∃ x, e.2.2.2 = some x ∧ x ≠ c) : trI (e :: K) c = trI K c := by
  unfold trI
  rcases hn with q | ⟨x, q, hx⟩
  · have : trW (e :: K) c = trW K c := trW_n q
    rw [this]
  · have : trW (e :: K) c = (trW K c).map (fun r => (r.1 + 1, r.2)) := (trW_s q).trans (if_neg hx)
    rw [this]
    cases trW K c <;> rfl
theorem trap_loop {c v : Int64} (hR : RPs b n s m τ K σ M i o) (hK : KNm b n m σ K) (hp : npS σ ≤ 40) (hl : K.length ≤ 15) (hv : NmR b n c v) : ∀ (suf pre : List KE), K = pre ++ suf → Q (some (.int (trI suf c))) M → T (h + 1) mdX11_trapNamed 7 [(0, .ref 29), (1, .long v), (3, .int (Int32.ofNat suf.length - 1))] [] M Q := by
  have F := hR.1.1
  have h4 := hR.1.2.2.2.1
  have d := hR.2.2.2.2.2.1
  intro suf
  induction suf with
  | nil =>
    intro pre hpre H
    refine VX11_trapNamed_7 ?_
    unfold DX11_trapNamed_7
    exact ⟨fun _ => H, fun z => absurd (by decide) z⟩
  | cons e suf ih =>
    intro pre hpre H
    have hlen : suf.length < 15 := by rw [hpre, List.length_append] at hl; have : (e :: suf).length = suf.length + 1 := rfl; omega
    have he : e ∈ K := by rw [hpre]; exact List.mem_append_right _ List.mem_cons_self
    obtain ⟨⟨p1, p2⟩, hk⟩ := hK e he
    have ix : Int32.ofNat (e :: suf).length - 1 = Int32.ofNat suf.length := dec32 (by omega)
    have a76 : mAI M 76 suf.length = Int32.ofNat e.1 := by
      have z := d.2.2.2.2.2.2.1.2 suf.length (by rw [List.length_map, hpre, List.length_append]; show suf.length < pre.length + (suf.length + 1); omega)
      rw [hpre, List.map_append] at z
      have w := rev_mid (x := e.1) (l := suf.map (fun e => e.1)) (pre.map (fun e => e.1))
      rw [List.length_map] at w
      rw [z, Nat.zero_add]
      exact congrArg Int32.ofNat w
    have a58 : mAI M 58 = σ.1.2.1 58 := d.2.2.1 58 (by decide) (by decide) (by decide)
    have a72 : mAJ M 72 = σ.1.2.2 := d.2.2.2.1
    have vp76 : vp_in (Int32.ofNat suf.length) (mL M 76) := by rw [ln76 F]; exact vp_of (by omega) (by decide)
    have vpp : ∀ {c : Nat}, mL M c = 160 → vp_in (Int32.ofNat e.1) (mL M c) := fun z => by rw [z]; exact vp_of (by omega) (by decide)
    have go : trI (e :: suf) c = trI suf c → DX11_trapNamed_50 h 29 v (Int32.ofNat suf.length) M Q := by
      intro z
      unfold DX11_trapNamed_50
      have := ih (pre ++ [e]) (by rw [hpre, List.append_assoc]; rfl) (by rw [← z]; exact H)
      rw [Int32.sub_eq_add_neg] at this
      exact this
    refine VX11_trapNamed_7 ?_
    unfold DX11_trapNamed_7
    rw [ix, lt32 (by omega)]
    refine ⟨fun z => absurd ((ltn32 (b := 0) (by omega) (by decide)).mp z) (by omega), fun _ => ⟨ok29 F, 58, rf29_38 F, 76, rf29_57 F, ok76 F, vp76, ok58 F, ?_⟩⟩
    rw [a76, lt32 (by omega)]
    refine ⟨vpp (ln58 F), ?_⟩
    rw [a58]
    refine ⟨fun n12 => go ?_, fun y12 => ⟨72, rf29_52 F, 76, rf29_57 F, ok76 F, vp76, ok72 F, ?_⟩⟩
    · rcases hk with ⟨c', q1, q2, -⟩ | ⟨q, -⟩
      · exact absurd q2 n12
      · rcases q with q | q
        · exact trI_skip (Or.inl q)
        · exact trI_skip (Or.inr ⟨0, q, fun z => hv.nz z.symm⟩)
    · rw [a76, lt32 (by omega)]
      obtain ⟨c', q1, q2, q3⟩ : ∃ c, e.2.2.2 = some c ∧ σ.1.2.1 58 e.1 = 12 ∧ NmR b n c (σ.1.2.2 e.1) := by
        rcases hk with q | ⟨-, q⟩
        · exact q
        · exact absurd y12 q
      have eqn := q3.eq hv
      refine ⟨vpp (ln72 F), ?_⟩
      rw [a72]
      refine ⟨fun nn => go (trI_skip (Or.inr ⟨c', q1, fun z => nn (lgz.mpr (eqn.mp z))⟩)), fun yy => ⟨76, rf29_57 F, ok76 F, vp76, ?_⟩⟩
      rw [a76]
      have z : c' = c := eqn.mpr (lgz.mp yy)
      have : trI (e :: suf) c = Int32.ofNat e.1 := by
        have w : trW (e :: suf) c = some (0, e.1) := (trW_s q1).trans (if_pos z)
        unfold trI
        rw [w]
      rw [this] at H
      exact H
theorem P_trapNamed {c v : Int64} (hR : RPs b n s m τ K σ M i o) (hK : KNm b n m σ K) (hp : npS σ ≤ 40) (hl : K.length ≤ 15) (hv : NmR b n c v) (H : Q (some (.int (trI K c))) M) : E (h + 1) mdX11_trapNamed [.ref 29, .long v] M Q := by
  have F := hR.1.1
  refine KX11_trapNamed ?_
  unfold DX11_trapNamed_0
  rw [hR.2.2.2.2.2.1.2.2.2.2.2.2.1.1, List.length_map]
  exact ⟨ok29 F, trap_loop (h := h) hR hK hp hl hv K [] rfl H⟩
theorem trI_none {c : Int64} (hK : KNm b n m σ K) (hm : m < 4) (hp : npS σ ≤ 40) : trI K c = -1 ↔ (trW K c).isSome = false := by
  have key : ∀ (K : List KE) (r : Nat × Nat), (∀ e ∈ K, e.1 < 160) → trW K c = some r → r.2 < 160 := by
    intro K
    induction K with
    | nil => intro r _ h; cases h
    | cons e K ih =>
      intro r hb hr
      cases q : e.2.2.2 with
      | none => rw [trW_n q] at hr; exact ih r (fun e' he => hb e' (List.mem_cons_of_mem _ he)) hr
      | some x =>
        rw [trW_s q] at hr
        by_cases z : x = c
        · rw [if_pos z] at hr
          cases hr
          exact hb e List.mem_cons_self
        · rw [if_neg z] at hr
          cases w : trW K c with
          | none => rw [w] at hr; cases hr
          | some r' =>
            rw [w] at hr
            cases hr
            exact ih r' (fun e' he => hb e' (List.mem_cons_of_mem _ he)) w
  unfold trI
  cases w : trW K c with
  | none => exact ⟨fun _ => rfl, fun _ => rfl⟩
  | some r =>
    have hr := key K r (fun e he => by have := (hK e he).1; omega) w
    refine ⟨fun z => ?_, fun z => absurd z (by simp)⟩
    have z : Int32.ofNat r.2 = -1 := z
    have z2 := congrArg Int32.toInt z
    rw [ti32 (by omega)] at z2
    have : (-1 : Int32).toInt = -1 := by decide
    omega
theorem P_isOpenTrap {c v : Int64} (hR : RPs b n s m τ K σ M i o) (hK : KNm b n m σ K) (hp : npS σ ≤ 40) (hl : K.length ≤ 15) (hv : NmR b n c v) (H : Q (some (.int (if (trW K c).isSome = true then 1 else 0))) M) : E (h + 2) mdX11_isOpenTrap [.ref 29, .long v] M Q := by
  have F := hR.1.1
  have tn := trI_none (c := c) hK hR.1.2.2.2.1 hp
  refine KX11_isOpenTrap ?_
  unfold DX11_isOpenTrap_0 DX11_isOpenTrap_14
  refine ⟨ok29 F, P_trapNamed (h := h) hR hK hp hl hv (fun _ => ⟨_, rfl, fun z => ⟨Or.inl rfl, ?_⟩, fun z => ⟨Or.inr rfl, ?_⟩⟩)⟩
  · rw [tn.mp z] at H; exact H
  · cases w : (trW K c).isSome with
    | false => exact absurd (tn.mpr w) z
    | true => rw [w] at H; exact H
end
