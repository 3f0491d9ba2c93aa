/-! A disk that the power left: what mounting makes of it. Own rows. -/
theorem Good_congr {M N : By} (h : ∀ a, 1088 ≤ a → a < 8192 → N a = M a) (G : Good M) : Good N := by
  have hr : ∀ a, 1088 ≤ a → a < 8192 → rb N a = rb M a := fun a h1 h2 => by unfold rb; rw [h a h1 h2]
  have se : SE M N := ⟨fun a h1 h2 => hr a h1 (by omega), fun i hi hn j hj => by
    have h1 := G.1.nd26 hi hn
    have h2 := G.1.nd_lt hi
    exact hr _ (by omega) (by omega)⟩
  refine ⟨(se.gs G.1).of (fun i k => se.os.symm), se.gi G.2.1, fun j hj tj => ?_⟩
  rw [se.q_ty hj] at tj
  rw [se.q_sz hj]
  refine (G.2.2 j hj tj).congr (fun p hp => ?_)
  obtain ⟨o1, o2, -⟩ := G.own hj hp
  have a3 := (G.1.2.1 j _ o1).2.2
  rw [blk_lo o2] at a3
  unfold ct
  rw [se.q_cbk hj o2]
  exact hr _ (by omega) (by omega)
def ap : List (Nat × By) → By → By
  | [], D => D
  | q :: l, D => ap l (wB D q.1 q.2)
theorem rn_ok : ∀ (l : List (Nat × By)) (z : ZS), (rn l z).1 = true → z_D (rn l z).2 = ap l (z_D z) ∧ z_o (rn l z).2 = z_o z := by
  intro l
  induction l with
  | nil => intro z _; exact ⟨rfl, rfl⟩
  | cons q l ih =>
    intro z h
    have e : rn (q :: l) z = if z_f z = nI 0 then (false, (z_D z, z_w z, nM, nI 1)) else rn l (wB (z_D z) q.1 q.2, z_w z + nI 1, fdec (z_f z), z_o z) := rfl
    rw [e] at h ⊢
    by_cases c : z_f z = nI 0
    · rw [if_pos c] at h; exact absurd h nft
    · rw [if_neg c] at h ⊢
      exact ih _ h
theorem rn_no : ∀ (l : List (Nat × By)) (z : ZS), ¬ (rn l z).1 = true → z_o (rn l z).2 = nI 1 ∧ ∃ l', (∀ q ∈ l', q ∈ l) ∧ z_D (rn l z).2 = ap l' (z_D z) := by
  intro l
  induction l with
  | nil => intro z h; exact absurd rfl h
  | cons q l ih =>
    intro z h
    have e : rn (q :: l) z = if z_f z = nI 0 then (false, (z_D z, z_w z, nM, nI 1)) else rn l (wB (z_D z) q.1 q.2, z_w z + nI 1, fdec (z_f z), z_o z) := rfl
    rw [e] at h ⊢
    by_cases c : z_f z = nI 0
    · rw [if_pos c]
      exact ⟨rfl, [], fun q hq => (nomatch hq), rfl⟩
    · rw [if_neg c] at h ⊢
      obtain ⟨h1, l', h2, h3⟩ := ih _ h
      refine ⟨h1, q :: l', fun p hp => ?_, h3⟩
      rcases List.mem_cons.mp hp with hp | hp
      · rw [hp]; exact List.mem_cons_self
      · exact List.mem_cons_of_mem _ (h2 p hp)
theorem ap_no : ∀ (l : List (Nat × By)) (D : By) (a : Nat), (∀ q ∈ l, q.1 ≠ a / 64) → ap l D a = D a := by
  intro l
  induction l with
  | nil => intro D a _; rfl
  | cons q l ih =>
    intro D a h
    show ap l (wB D q.1 q.2) a = D a
    rw [ih _ a (fun p hp => h p (List.mem_cons_of_mem _ hp))]
    have := h q List.mem_cons_self
    exact if_neg (by omega)
theorem ap_all {G : By} : ∀ (l : List (Nat × By)) (D : By) (a : Nat), (∀ q ∈ l, ∀ o, o < 64 → q.2 o = G (64 * q.1 + o)) → (D a = G a ∨ ∃ q ∈ l, q.1 = a / 64) → ap l D a = G a := by
  intro l
  induction l with
  | nil => intro D a _ h; exact h.elim id (fun ⟨q, hq, _⟩ => (nomatch hq))
  | cons q l ih =>
    intro D a hG h
    show ap l (wB D q.1 q.2) a = G a
    refine ih _ a (fun p hp => hG p (List.mem_cons_of_mem _ hp)) ?_
    by_cases e : q.1 = a / 64
    · refine Or.inl ?_
      show (if 64 * q.1 ≤ a ∧ a < 64 * q.1 + 64 then q.2 (a - 64 * q.1) else D a) = G a
      rw [if_pos (by omega), hG q List.mem_cons_self _ (by omega), show 64 * q.1 + (a - 64 * q.1) = a by omega]
    · rcases h with h | ⟨p, hp, hp2⟩
      · refine Or.inl ?_
        show (if 64 * q.1 ≤ a ∧ a < 64 * q.1 + 64 then q.2 (a - 64 * q.1) else D a) = G a
        rw [if_neg (by omega)]; exact h
      · rcases List.mem_cons.mp hp with hp | hp
        · rw [hp] at hp2; exact absurd hp2 e
        · exact Or.inr ⟨p, hp, hp2⟩
theorem lgL_in {M : By} {L : List Nat} {q : Nat × By} : ∀ d v, q ∈ lgL M L d v → ∃ j, v ≤ j ∧ j < v + d ∧ q = (2 + j, pg M (L.getD j 0)) := by
  intro d
  induction d with
  | zero => intro v h; exact (nomatch h)
  | succ d ih =>
    intro v h
    rcases List.mem_cons.mp h with h | h
    · exact ⟨v, by omega, by omega, h⟩
    · obtain ⟨j, j1, j2, j3⟩ := ih (v + 1) h
      exact ⟨j, by omega, by omega, j3⟩
theorem lgL_at {M : By} {L : List Nat} {j : Nat} : ∀ d v, v ≤ j → j < v + d → (2 + j, pg M (L.getD j 0)) ∈ lgL M L d v := by
  intro d
  induction d with
  | zero => intro v h1 h2; omega
  | succ d ih =>
    intro v h1 h2
    by_cases e : j = v
    · rw [e]; exact List.mem_cons_self
    · exact List.mem_cons_of_mem _ (ih (v + 1) (by omega) (by omega))
theorem plL_in {M : By} {L : List Nat} {q : Nat × By} : ∀ d v, q ∈ plL M L d v → ∃ j, v ≤ j ∧ j < v + d ∧ q = (L.getD j 0, pg M (L.getD j 0)) := by
  intro d
  induction d with
  | zero => intro v h; exact (nomatch h)
  | succ d ih =>
    intro v h
    rcases List.mem_cons.mp h with h | h
    · exact ⟨v, by omega, by omega, h⟩
    · obtain ⟨j, j1, j2, j3⟩ := ih (v + 1) h
      exact ⟨j, by omega, by omega, j3⟩
theorem plL_at {M : By} {L : List Nat} {j : Nat} : ∀ d v, v ≤ j → j < v + d → (L.getD j 0, pg M (L.getD j 0)) ∈ plL M L d v := by
  intro d
  induction d with
  | zero => intro v h1 h2; omega
  | succ d ih =>
    intro v h1 h2
    by_cases e : j = v
    · rw [e]; exact List.mem_cons_self
    · exact List.mem_cons_of_mem _ (ih (v + 1) (by omega) (by omega))
theorem rpL_in {D : By} {L : List Nat} {q : Nat × By} : ∀ d v, q ∈ rpL D L d v → ∃ j, v ≤ j ∧ j < v + d ∧ q = (L.getD j 0, pg D (2 + j)) := by
  intro d
  induction d with
  | zero => intro v h; exact (nomatch h)
  | succ d ih =>
    intro v h
    rcases List.mem_cons.mp h with h | h
    · exact ⟨v, by omega, by omega, h⟩
    · obtain ⟨j, j1, j2, j3⟩ := ih (v + 1) h
      exact ⟨j, by omega, by omega, j3⟩
theorem rpL_at {D : By} {L : List Nat} {j : Nat} : ∀ d v, v ≤ j → j < v + d → (L.getD j 0, pg D (2 + j)) ∈ rpL D L d v := by
  intro d
  induction d with
  | zero => intro v h1 h2; omega
  | succ d ih =>
    intro v h1 h2
    by_cases e : j = v
    · rw [e]; exact List.mem_cons_self
    · exact List.mem_cons_of_mem _ (ih (v + 1) (by omega) (by omega))
theorem L_idx {L : List Nat} {x : Nat} (h : x ∈ L) : ∃ j, j < L.length ∧ L.getD j 0 = x := by
  obtain ⟨j, hj, e⟩ := List.getElem_of_mem h
  exact ⟨j, hj, by simp [List.getD, hj, e]⟩
/-- a log of the blocks L stands on the disk, of the image G -/
def Lg (D : By) (L : List Nat) (G : By) : Prop :=
  L.length ≠ 0 ∧ L.length ≤ 15 ∧ (∀ x ∈ L, 17 ≤ x ∧ x < 128) ∧ rb D 64 = L.length ∧ (∀ j, j < L.length → rb D (65 + j) = L.getD j 0) ∧ Good G ∧ (∀ a, 1088 ≤ a → a < 8192 → a / 64 ∉ L → D a = G a) ∧ ∀ j, j < L.length → ∀ o, o < 64 → D (64 * (2 + j) + o) = G (64 * L.getD j 0 + o)
def Rc (D : By) : Prop := (rb D 64 = 0 ∧ Good D) ∨ ∃ L G, Lg D L G
theorem hp_0 (L : List Nat) (h : L.length ≤ 15) : rb (hp L) 0 = L.length := by
  show ((if (0 : Nat) = 0 then b8 L.length else _).toBitVec).toNat = _
  rw [if_pos rfl, bt8, Nat.mod_eq_of_lt (by omega)]
/-- the head written, the places not, or not all -/
theorem Lg_mid {D M : By} {L : List Nat} {l : List (Nat × By)} (h0 : L.length ≠ 0) (hL : L.length ≤ 15) (hx : ∀ x ∈ L, 17 ≤ x ∧ x < 128) (GM : Good M) (hMD : ∀ a, 1088 ≤ a → a < 8192 → a / 64 ∉ L → M a = D a) (hl : ∀ q ∈ l, q ∈ plL M L L.length 0) : Lg (ap l (wB (ap (lgL M L L.length 0) D) 1 (hp L))) L M := by
  have inl : ∀ q ∈ l, q.1 ∈ L := fun q hq => by
    obtain ⟨j, j1, j2, j3⟩ := plL_in _ _ (hl q hq)
    rw [j3]
    exact L_mem (by omega)
  have low : ∀ a, a < 1088 → ap l (wB (ap (lgL M L L.length 0) D) 1 (hp L)) a = wB (ap (lgL M L L.length 0) D) 1 (hp L) a := fun a ha => ap_no _ _ _ (fun q hq e => by have := hx _ (inl q hq); omega)
  have hd : ∀ o, o < 64 → ap l (wB (ap (lgL M L L.length 0) D) 1 (hp L)) (64 + o) = hp L o := fun o ho => by
    rw [low _ (by omega)]
    show (if 64 * 1 ≤ 64 + o ∧ 64 + o < 64 * 1 + 64 then hp L (64 + o - 64 * 1) else _) = _
    rw [if_pos (by omega), show 64 + o - 64 * 1 = o by omega]
  refine ⟨h0, hL, hx, ?_, fun j hj => ?_, GM, fun a h1 h2 h3 => ?_, fun j hj o ho => ?_⟩
  · unfold rb
    rw [show 64 = 64 + 0 from rfl, hd 0 (by omega)]
    exact hp_0 L hL
  · unfold rb
    rw [show 65 + j = 64 + (1 + j) by omega, hd (1 + j) (by omega)]
    show ((if 1 + j = 0 then _ else if 1 + j ≤ L.length then b8 (L.getD (1 + j - 1) 0) else 0).toBitVec).toNat = _
    have := hx _ (L_mem hj)
    rw [if_neg (by omega), if_pos (by omega), bt8, show 1 + j - 1 = j by omega, Nat.mod_eq_of_lt (by omega)]
  · rw [ap_no _ _ _ (fun q hq e => h3 (by rw [← e]; exact inl q hq))]
    show (if 64 * 1 ≤ a ∧ a < 64 * 1 + 64 then _ else ap (lgL M L L.length 0) D a) = _
    rw [if_neg (by omega), ap_no _ _ _ (fun q hq e => by
      obtain ⟨j, j1, j2, j3⟩ := lgL_in _ _ hq
      rw [j3] at e
      have e : 2 + j = a / 64 := e
      omega)]
    exact (hMD a h1 h2 h3).symm
  · rw [low _ (by omega)]
    show (if 64 * 1 ≤ 64 * (2 + j) + o ∧ 64 * (2 + j) + o < 64 * 1 + 64 then _ else ap (lgL M L L.length 0) D (64 * (2 + j) + o)) = _
    rw [if_neg (by omega)]
    have key := ap_all (G := fun a => M (64 * L.getD (a / 64 - 2) 0 + a % 64)) (lgL M L L.length 0) D (64 * (2 + j) + o) (fun q hq z hz => ?_) (Or.inr ⟨_, lgL_at (j := j) L.length 0 (by omega) (by omega), ?_⟩)
    · rw [key, show (64 * (2 + j) + o) / 64 - 2 = j by omega, show (64 * (2 + j) + o) % 64 = o by omega]
    · obtain ⟨k, k1, k2, k3⟩ := lgL_in _ _ hq
      rw [k3]
      show M (64 * L.getD k 0 + z) = M (64 * L.getD ((64 * (2 + k) + z) / 64 - 2) 0 + (64 * (2 + k) + z) % 64)
      rw [show (64 * (2 + k) + z) / 64 - 2 = k by omega, show (64 * (2 + k) + z) % 64 = z by omega]
    · show 2 + j = _
      omega
theorem rn1_no {q : Nat × By} {z : ZS} (h : ¬ (rn [q] z).1 = true) : z_D (rn [q] z).2 = z_D z ∧ z_o (rn [q] z).2 = nI 1 := by
  have e : rn [q] z = if z_f z = nI 0 then (false, (z_D z, z_w z, nM, nI 1)) else (true, (wB (z_D z) q.1 q.2, z_w z + nI 1, fdec (z_f z), z_o z)) := rfl
  rw [e] at h ⊢
  by_cases c : z_f z = nI 0
  · rw [if_pos c]; exact ⟨rfl, rfl⟩
  · rw [if_neg c] at h; exact absurd rfl h
theorem Rc_log {D M : By} {L : List Nat} {l : List (Nat × By)} (hL : L.length ≤ 15) (GD : Good D) (hD0 : rb D 64 = 0) (hl : ∀ q ∈ l, q ∈ lgL M L L.length 0) : Rc (ap l D) := by
  have lo : ∀ a, (1088 ≤ a ∨ a = 64) → ap l D a = D a := fun a ha => ap_no _ _ _ (fun q hq e => by
    obtain ⟨j, j1, j2, j3⟩ := lgL_in _ _ (hl q hq)
    rw [j3] at e
    have e : 2 + j = a / 64 := e
    omega)
  refine Or.inl ⟨?_, Good_congr (fun a h1 _ => lo a (Or.inl h1)) GD⟩
  unfold rb
  rw [lo 64 (Or.inr rfl)]
  exact hD0
/-- what a commit leaves -/
theorem commit_rc {z : ZS} {M : By} {L : List Nat} (h0 : L.length ≠ 0) (hL : L.length ≤ 15) (hx : ∀ x ∈ L, 17 ≤ x ∧ x < 128) (GM : Good M) (GD : Good (z_D z)) (hD0 : rb (z_D z) 64 = 0) (hMD : ∀ a, 1088 ≤ a → a < 8192 → a / 64 ∉ L → M a = z_D z a) :
    ((rn (plan M L) z).1 = true → rb (z_D (rn (plan M L) z).2) 64 = 0 ∧ (∀ a, 1088 ≤ a → a < 8192 → z_D (rn (plan M L) z).2 a = M a) ∧ z_o (rn (plan M L) z).2 = z_o z) ∧ (¬ (rn (plan M L) z).1 = true → Rc (z_D (rn (plan M L) z).2) ∧ z_o (rn (plan M L) z).2 = nI 1) := by
  refine ⟨fun q => ?_, fun q => ?_⟩
  · obtain ⟨e1, e2⟩ := rn_ok _ _ q
    have e3 : ap (plan M L) (z_D z) = wB (ap (plL M L L.length 0) (wB (ap (lgL M L L.length 0) (z_D z)) 1 (hp L))) 1 (fun _ => 0) := by
      have app : ∀ (l l' : List (Nat × By)) (D : By), ap (l ++ l') D = ap l' (ap l D) := by
        intro l
        induction l with
        | nil => intro l' D; rfl
        | cons q l ih => intro l' D; exact ih l' _
      unfold plan
      rw [app, app, app]
      rfl
    rw [e1, e3]
    refine ⟨rfl, fun a h1 h2 => ?_, e2⟩
    show (if 64 * 1 ≤ a ∧ a < 64 * 1 + 64 then _ else ap (plL M L L.length 0) (wB (ap (lgL M L L.length 0) (z_D z)) 1 (hp L)) a) = _
    rw [if_neg (by omega)]
    refine ap_all _ _ _ (fun q hq o ho => ?_) ?_
    · obtain ⟨j, j1, j2, j3⟩ := plL_in _ _ hq
      rw [j3]
      rfl
    · by_cases hin : a / 64 ∈ L
      · obtain ⟨j, hj, e⟩ := L_idx hin
        exact Or.inr ⟨_, plL_at (j := j) L.length 0 (by omega) (by omega), e⟩
      · refine Or.inl ?_
        have := (Lg_mid (D := z_D z) (l := []) h0 hL hx GM hMD (fun q hq => (nomatch hq))).2.2.2.2.2.2.1 a h1 h2 hin
        exact this
  · unfold plan at q ⊢
    rw [rn_app] at q ⊢
    by_cases c1 : (rn (lgL M L L.length 0) z).1 = true
    · rw [if_pos c1] at q ⊢
      obtain ⟨a1, a2⟩ := rn_ok _ _ c1
      rw [rn_app] at q ⊢
      by_cases c2 : (rn [(1, hp L)] (rn (lgL M L L.length 0) z).2).1 = true
      · rw [if_pos c2] at q ⊢
        obtain ⟨b1, b2⟩ := rn_ok _ _ c2
        rw [a1] at b1
        have b1 : z_D (rn [(1, hp L)] (rn (lgL M L L.length 0) z).2).2 = wB (ap (lgL M L L.length 0) (z_D z)) 1 (hp L) := b1
        rw [rn_app] at q ⊢
        by_cases c3 : (rn (plL M L L.length 0) (rn [(1, hp L)] (rn (lgL M L L.length 0) z).2).2).1 = true
        · rw [if_pos c3] at q ⊢
          obtain ⟨d1, d2⟩ := rn_ok _ _ c3
          rw [b1] at d1
          obtain ⟨e3, e1⟩ := rn1_no q
          refine ⟨Or.inr ⟨L, M, ?_⟩, e1⟩
          rw [e3, d1]
          exact Lg_mid h0 hL hx GM hMD (fun q hq => hq)
        · rw [if_neg c3]
          obtain ⟨e1, l', e2, e3⟩ := rn_no _ _ c3
          rw [b1] at e3
          refine ⟨Or.inr ⟨L, M, ?_⟩, e1⟩
          rw [e3]
          exact Lg_mid h0 hL hx GM hMD e2
      · rw [if_neg c2]
        obtain ⟨e3, e1⟩ := rn1_no c2
        rw [a1] at e3
        rw [e3]
        exact ⟨Rc_log hL GD hD0 (fun q hq => hq), e1⟩
    · rw [if_neg c1]
      obtain ⟨e1, l', e2, e3⟩ := rn_no _ _ c1
      rw [e3]
      exact ⟨Rc_log hL GD hD0 e2, e1⟩
/-- what mounting a disk with a log leaves -/
theorem Lg_rep {D G : By} {L : List Nat} {l : List (Nat × By)} (h : Lg D L G) (hl : ∀ q ∈ l, q ∈ rpL D L L.length 0) : Lg (ap l D) L G := by
  obtain ⟨h0, hL, hx, h1, h2, h3, h4, h5⟩ := h
  have inl : ∀ q ∈ l, q.1 ∈ L := fun q hq => by
    obtain ⟨j, j1, j2, j3⟩ := rpL_in _ _ (hl q hq)
    rw [j3]
    exact L_mem (by omega)
  have low : ∀ a, a < 1088 → ap l D a = D a := fun a ha => ap_no _ _ _ (fun q hq e => by have := hx _ (inl q hq); omega)
  refine ⟨h0, hL, hx, ?_, fun j hj => ?_, h3, fun a a1 a2 a3 => ?_, fun j hj o ho => ?_⟩
  · unfold rb at h1 ⊢
    rw [low _ (by omega)]; exact h1
  · have := h2 j hj
    unfold rb at this ⊢
    rw [low _ (by omega)]; exact this
  · rw [ap_no _ _ _ (fun q hq e => a3 (by rw [← e]; exact inl q hq))]
    exact h4 a a1 a2 a3
  · rw [low _ (by omega)]
    exact h5 j hj o ho
theorem mount_rc {D G : By} {L : List Nat} {w f : Int32} (h : Lg D L G) :
    ((rn (rpl D L) (D, w, f, nI 0)).1 = true → rb (z_D (rn (rpl D L) (D, w, f, nI 0)).2) 64 = 0 ∧ Good (z_D (rn (rpl D L) (D, w, f, nI 0)).2) ∧ z_o (rn (rpl D L) (D, w, f, nI 0)).2 = nI 0) ∧ (¬ (rn (rpl D L) (D, w, f, nI 0)).1 = true → Rc (z_D (rn (rpl D L) (D, w, f, nI 0)).2) ∧ z_o (rn (rpl D L) (D, w, f, nI 0)).2 = nI 1) := by
  refine ⟨fun q => ?_, fun q => ?_⟩
  · obtain ⟨e1, e2⟩ := rn_ok _ _ q
    have e3 : ap (rpl D L) D = wB (ap (rpL D L L.length 0) D) 1 (fun _ => 0) := by
      have app : ∀ (l l' : List (Nat × By)) (D : By), ap (l ++ l') D = ap l' (ap l D) := by
        intro l
        induction l with
        | nil => intro l' D; rfl
        | cons q l ih => intro l' D; exact ih l' _
      unfold rpl
      rw [app]
      rfl
    have e1 : z_D (rn (rpl D L) (D, w, f, nI 0)).2 = ap (rpl D L) D := e1
    obtain ⟨h0, hL, hx, h1, h2, h3, h4, h5⟩ := h
    rw [e1, e3]
    refine ⟨rfl, Good_congr (fun a a1 a2 => ?_) h3, e2⟩
    show (if 64 * 1 ≤ a ∧ a < 64 * 1 + 64 then _ else ap (rpL D L L.length 0) D a) = _
    rw [if_neg (by omega)]
    refine ap_all _ _ _ (fun q hq o ho => ?_) ?_
    · obtain ⟨j, j1, j2, j3⟩ := rpL_in _ _ hq
      rw [j3]
      exact h5 j (by omega) o ho
    · by_cases hin : a / 64 ∈ L
      · obtain ⟨j, hj, e⟩ := L_idx hin
        exact Or.inr ⟨_, rpL_at (j := j) L.length 0 (by omega) (by omega), e⟩
      · exact Or.inl (h4 a a1 a2 hin)
  · unfold rpl at q ⊢
    rw [rn_app] at q ⊢
    by_cases c1 : (rn (rpL D L L.length 0) (D, w, f, nI 0)).1 = true
    · rw [if_pos c1] at q ⊢
      obtain ⟨a1, a2⟩ := rn_ok _ _ c1
      obtain ⟨e3, e1⟩ := rn1_no q
      rw [e3, a1]
      exact ⟨Or.inr ⟨L, G, Lg_rep h (fun q hq => hq)⟩, e1⟩
    · rw [if_neg c1]
      obtain ⟨e1, l', e2, e3⟩ := rn_no _ _ c1
      rw [e3]
      exact ⟨Or.inr ⟨L, G, Lg_rep h e2⟩, e1⟩
