/-! leaves: by kind -/
section
variable {b : Nat → Int32} {n m : Nat} {τ : Td} {j i o : Nat} {σ σ1 : PS} {γ γ1 : Gh} {k : Int32} {K : List KE} {H : Nat → Prop} {T : TrT} {G1 : Nat → List Nat} {c : List Nat × List (Nat × Nat)}
theorem woV_tr : woV (woS τ m (trP1 σ T) (G1, c)) = vwT T G1 := rfl
theorem woA_tr : woA (woS τ m (trP1 σ T) (G1, c)) = σ.1.2.1 := rfl
theorem woP_tr : woP (woS τ m (trP1 σ T) (G1, c)) = σ.2.1.1 := rfl
theorem CdW_tr {zn P : Nat} {l : Int32} (h : CdW (woS τ m σ γ) m zn P l) : CdW (woS τ m (trP1 σ T) (G1, γ.2)) m zn P l := h
theorem lf_gi (hB : By b) (hv : HvT τ) {w : Int64} {r : Nat × PS × Nat} (hT : (trS σ).1 ≤ 600) (hg : giT τ σ γ) (h61 : σ.1.2.1 61 (40 * m + j) = 0) (hK : K.length ≤ 15) (ho : opnK k = false) (e : lfM b n m τ k w j i K σ = .ok r) : LfC τ m k K j σ γ r.2.1 r.2.2 := by
  unfold lfM at e
  by_cases k38 : k = 38
  · rw [if_pos k38] at e
    cases e
    subst k38
    obtain ⟨G1, nw, sh⟩ := W_pa hg.1 (by omega)
    refine LfC.of hg gfT.rf rfl nw (by decide) ?_ (fun _ _ _ => rfl) (fun _ _ => rfl) rfl
    unfold PkS
    rw [if_pos rfl, woV_tr]
    exact ⟨sh, rfl⟩
  rw [if_neg k38] at e
  by_cases k39 : k = 39
  · rw [if_pos k39] at e
    cases e
    subst k39
    obtain ⟨G1, nw, sh⟩ := W_ha hg.1 (by omega)
    refine LfC.of hg gfT.rf rfl nw (by decide) ?_ (fun _ _ _ => rfl) (fun _ _ => rfl) rfl
    unfold PkS
    rw [if_neg (by decide), if_pos rfl, woV_tr]
    exact ⟨sh, rfl⟩
  rw [if_neg k39] at e
  by_cases k40 : k = 40
  · rw [if_pos k40] at e
    obtain ⟨q, eq, e⟩ := bind_ok e
    cases e
    subst k40
    obtain ⟨a1, a2, a3, a4, a5⟩ := em_k hv eq
    obtain ⟨G1, nw, sh⟩ := W_em (v := q.2.2) (a1.gi hg).1 (by rw [a1.2.2.2.2]; omega)
    refine LfC.of (a1.gi hg) (a1.gf a2) a1.2.2.2.2 nw (by decide) ?_ a3 a4 a1.2.2.1
    unfold PkS
    rw [if_neg (by decide), if_neg (by decide), if_pos rfl, woV_tr, woA_tr]
    exact ⟨⟨q.2.2, a5, sh⟩, rfl⟩
  rw [if_neg k40] at e
  by_cases k41 : k = 41
  · rw [if_pos k41] at e
    obtain ⟨q, eq, e⟩ := bind_ok e
    cases e
    subst k41
    obtain ⟨a1, a2, a3, a4, a5⟩ := em_k hv eq
    obtain ⟨G1, nw, sh⟩ := W_st (v := q.2.2) (a1.gi hg).1 (by rw [a1.2.2.2.2]; omega)
    refine LfC.of (a1.gi hg) (a1.gf a2) a1.2.2.2.2 nw (by decide) ?_ a3 a4 a1.2.2.1
    unfold PkS
    rw [if_neg (by decide), if_neg (by decide), if_neg (by decide), if_pos rfl, woV_tr, woA_tr]
    exact ⟨⟨q.2.2, a5, sh⟩, rfl⟩
  rw [if_neg k41] at e
  by_cases k47 : k = 47
  · rw [if_pos k47] at e
    obtain ⟨q, eq, e⟩ := bind_ok e
    cases e
    subst k47
    obtain ⟨γ1, g1, g2, g3, g4, ⟨a1, a2, a3, a4, a5, a6⟩, g6⟩ := at_gi hg h61 eq
    obtain ⟨G1, nw, sh⟩ := W_aw (l := Int32.ofNat q.2.2.1) (im := q.2.2.2) g2.1 (by rw [a2]; omega)
    refine LfC.of g2 g3 a2 nw (by decide) ?_ (fun _ _ _ => by rw [a1]) (fun _ _ => by rw [a1]) a3
    unfold PkS
    rw [if_neg (by decide), if_neg (by decide), if_neg (by decide), if_neg (by decide), if_pos rfl, woV_tr, woA_tr]
    exact ⟨⟨_, _, CdW_tr g4, g6, sh⟩, rfl⟩
  rw [if_neg k47] at e
  by_cases k57 : k = 57
  · rw [if_pos k57] at e
    by_cases t2 : tK b n i = 2
    · rw [if_pos t2] at e
      cases et : trW K (tC b n i) with
      | none => rw [et] at e; cases e
      | some q =>
        rw [et] at e
        obtain ⟨i2, -, e⟩ := bind_ok e
        cases e
        subst k57
        have kc : KcS σ (raP σ (up2 σ.1.2.1 60 (40 * m + j) (Int32.ofNat q.2))) := KcS.ra
        obtain ⟨G1, nw, sh⟩ := W_ex (v := q.1) hg.1 (by omega)
        refine LfC.of (kc.gi hg) (kc.gf ⟨[], (List.append_nil _).symm⟩) rfl nw (by decide) ?_ (fun _ _ _ => rfl) (fun _ _ => rfl) rfl
        unfold PkS
        rw [if_neg (by decide), if_neg (by decide), if_neg (by decide), if_neg (by decide), if_neg (by decide), if_pos rfl, woV_tr, woA_tr]
        exact ⟨⟨q.1, q.2, by have := trW_lt K q.1 q.2 et; omega, up2_eq, trW_X (NmR.nz ⟨tP b n i, wdK_L hB (Or.inl t2), rfl, rfl⟩) K q.1 q.2 et, sh⟩, rfl⟩
    · rw [if_neg t2] at e; cases e
  rw [if_neg k57] at e
  have op : ∀ x : Int32, opnK x = true → k ≠ x := fun x hx z => by rw [z, hx] at ho; exact absurd ho (by decide)
  have pk : ∀ {W : Wo} {zn fn lo hi p pb x : Nat}, lfS (woV W) lo hi x 0 0 → PkS W m zn fn lo hi k K j p pb x [] := by
    intro W zn fn lo hi p pb x h
    unfold PkS
    rw [if_neg k38, if_neg k39, if_neg k40, if_neg k41, if_neg k47, if_neg k57, if_neg (op 42 (by decide)), if_neg (op 44 (by decide)), if_neg (op 58 (by decide)), if_neg (op 49 (by decide)), if_neg (op 50 (by decide)), if_neg (op 52 (by decide)), if_neg (op 53 (by decide)), if_neg (op 55 (by decide)), if_neg (op 17 (by decide))]
    exact ⟨h, rfl⟩
  have pa0 : 0 = paK k := by
    unfold paK
    rw [if_neg (op 53 (by decide)), if_neg]
    rintro (z | z | z | z | z | z)
    · exact k38 z
    · exact k39 z
    · exact k41 z
    · exact k47 z
    · exact op 49 (by decide) z
    · exact op 50 (by decide) z
  by_cases k2 : k = 2
  · rw [if_pos k2] at e
    obtain ⟨i2, -, e⟩ := bind_ok e
    obtain ⟨q, eq, e⟩ := bind_ok e
    cases e
    obtain ⟨a1, a2, a3, a4⟩ := su_k hv (Or.inl rfl) eq
    have kc : KcS σ q.2 := KcS.tr (σ1 := guP (paP (paP σ j 3 2) j 4 (oi (fd τ.2.2.2.1 w))) (giS σ ||| ((1 : Int32) <<< (oi (fd τ.2.2.2.1 w) &&& 31))) (usS σ)) ⟨rfl, rfl, rfl, rfl, rfl⟩ a1
    obtain ⟨G1, nw, -, sh⟩ := W_mk (k := 0) (kc.gi hg).1 (by rw [kc.2.2.2.2]; omega) (by decide)
    refine LfC.of (kc.gi hg) (kc.gf a2) kc.2.2.2.2 nw pa0 (pk (by rw [woV_tr]; exact sh)) (fun x f h => ?_) (fun f h => ?_) kc.2.2.1
    · rw [a3 x f h]
      show up2 (up2 σ.2.1.1 j 3 2) j 4 _ x f = _
      rw [up2_ne (fun z => h z.1), up2_ne (fun z => h z.1)]
    · rw [a4 f (Or.inl h)]
      show up2 (up2 σ.2.1.1 j 3 2) j 4 _ j f = _
      rw [up2_ne (fun z => by omega), up2_ne (fun z => by omega)]
  · rw [if_neg k2] at e
    cases e
    obtain ⟨G1, nw, -, sh⟩ := W_mk (k := 0) hg.1 (by omega) (by decide)
    exact LfC.of hg gfT.rf rfl nw pa0 (pk (by rw [woV_tr]; exact sh)) (fun _ _ _ => rfl) (fun _ _ => rfl) rfl
end
