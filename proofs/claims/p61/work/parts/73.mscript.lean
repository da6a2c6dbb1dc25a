/-! ===== the model reads a script to its end ===== -/
def Res (h : Hp) (z e : Nat) (r : Option (Bool × Hp)) : Prop := ∃ b h' s' e' t', r = some (b, h') ∧ Pt h' z s' e' t' ∧ Wfx (rd h' 141) ∧ Pf h h' ∧ e ≤ e'
set_option maxRecDepth 16384 in
theorem res_id {h : Hp} {z e : Nat} {r : Option (Bool × Hp)} (q : Res h z e r) : Res h z e (r.bind fun x => some (x.1, x.2)) := by
  obtain ⟨b, h', s', e', t', rfl, k⟩ := q
  exact ⟨b, h', s', e', t', rfl, k⟩
set_option maxRecDepth 16384 in
theorem res_tr {h h1 : Hp} {z e e1 : Nat} {r : Option (Bool × Hp)} (f : Pf h h1) (l : e ≤ e1) (q : Res h1 z e1 r) : Res h z e r := by
  obtain ⟨b, h', s', e', t', rfl, P, w, f', l'⟩ := q
  exact ⟨b, h', s', e', t', rfl, P, w, f.tr f', by omega⟩
set_option maxRecDepth 16384 in
theorem stops_res {h : Hp} {z s e t : Nat} (P : Pt h z s e t) (w : Wfx (rd h 141)) (c : Bool) {K : Hp → Option (Bool × Hp)} (hK : c = true → ∃ h8, K h = some (true, h8) ∧ Mz h h8) : Res h z e ((M_stops h c).bind fun x => if b2i x.1 = 0 then some (false, x.2) else K x.2) := by
  obtain ⟨b, h', e', P', f', o', pb⟩ := mstops_ok P c
  rw [e', Option.bind_some]
  match b, pb with
  | false, _ => exact ⟨false, h', s, e, t, rfl, P', by rw [o' 141 (by decide)]; exact w, f', Nat.le_refl _⟩
  | true, pb =>
    obtain ⟨rfl, rfl⟩ := pb rfl
    obtain ⟨h8, e8, m8⟩ := hK rfl
    dsimp only
    rw [if_neg (by decide), e8]
    exact ⟨true, h8, s, e, t, rfl, P.cg fun i _ => by rw [m8.2 140 (by decide)], m8.1, Pf.mk m8, Nat.le_refl _⟩
set_option maxRecDepth 16384 in
theorem num_res {h : Hp} {z s e t : Nat} (P : Pt h z s e t) (w : Wfx (rd h 141)) {p : Nat} (hp : p < 3) (lo hi : Int32) {K : Bool × Hp → Option (Bool × Hp)} (hF : ∀ g, K (false, g) = some (false, g)) (hK : ∀ h2 s2 e2 t2, Pt h2 z s2 e2 t2 → Wfx (rd h2 141) → rd h2 141 = rd h 141 → (∀ i, i ≠ p → rd h2 149 i = rd h 149 i) → rd h2 149 p = rd h 140 19 → ¬ rd h2 149 p < lo → ¬ hi < rd h2 149 p → Res h2 z e2 (K (true, h2))) : Res h z e ((M_number h (nI p) lo hi).bind K) := by
  obtain ⟨b, h2, s2, e2, t2, eq, P2, f2, w2, l2, o2, pb⟩ := mnumber_ok P hp lo hi
  rw [eq, Option.bind_some]
  match b, pb with
  | false, _ => exact ⟨false, h2, s2, e2, t2, hF h2, P2, by rw [w2]; exact w, f2, l2⟩
  | true, pb =>
    obtain ⟨-, a1, a2, a3⟩ := pb rfl
    exact res_tr f2 l2 (hK h2 s2 e2 t2 P2 (by rw [w2]; exact w) w2 o2 a1 a2 a3)
set_option maxRecDepth 16384 in
theorem range_of {x lo hi : Int32} {a b : Nat} (el : lo = nI a) (eh : hi = nI b) (hab : a ≤ b) (hb : b < 2 ^ 30) (h1 : ¬ x < lo) (h2 : ¬ hi < x) : ∃ j, a ≤ j ∧ j ≤ b ∧ x = nI j := by
  subst el eh
  rcases range_or x a b (by omega) hab with (q | q) | ⟨j, hj, rfl⟩
  · exact absurd q h1
  · exact absurd q h2
  · exact ⟨a + j, by omega, by omega, rfl⟩
set_option maxRecDepth 16384 in
theorem range_pred {x : Int32} {n : Nat} (hn : n ≤ 600) (h1 : ¬ x < 0) (h2 : ¬ nI n - 1 < x) : ∃ j, j < n ∧ x = nI j := by
  refine below hn h1 ?_ rfl
  rw [Int32.le_iff_toInt_le]; rw [Int32.lt_iff_toInt_lt] at h2; omega
set_option maxRecDepth 16384 in
theorem n149 {h : Hp} {p : Nat} (hp : p < 3) : rdO 3 (rd h 149) (nI p) = some (rd h 149 p) := rdO_in hp (by decide)
set_option maxRecDepth 16384 in
theorem n149_0 {h : Hp} : rdO 3 (rd h 149) 0 = some (rd h 149 0) := n149 (p := 0) (by decide)
set_option maxRecDepth 16384 in
theorem n149_1 {h : Hp} : rdO 3 (rd h 149) 1 = some (rd h 149 1) := n149 (p := 1) (by decide)
set_option maxRecDepth 16384 in
theorem n149_2 {h : Hp} : rdO 3 (rd h 149) 2 = some (rd h 149 2) := n149 (p := 2) (by decide)
section
variable {h : Hp} {z s e t : Nat}
set_option maxRecDepth 16384 in
theorem readsClip_ok (P : Pt h z s e t) (w : Wfx (rd h 141)) : Res h z e (M_readsClip h) := by
  unfold M_readsClip
  unfold lt
  dsimp only
  have j24 : rd h 140 19 = rd h 140 19 → (∃ b, M_areColours (rd h 140 19) = some b) → Res h z e ((M_number h 0 1 99999999).bind fun x => if b2i x.1 = 0 then some (false, x.2) else (rdO 106 (rd x.2 141) 2).bind fun t3 => if 12 ≤ t3 then (M_stops x.2 false).bind fun y => if b2i y.1 = 0 then some (false, y.2) else (rdO 3 (rd y.2 149) 0).bind fun t6 => (M_adds y.2 t6).bind fun u => some (true, u.2) else (M_stops x.2 true).bind fun y => if b2i y.1 = 0 then some (false, y.2) else (rdO 3 (rd y.2 149) 0).bind fun t6 => (M_adds y.2 t6).bind fun u => some (true, u.2)) := fun _ _ => by
    refine num_res P w (p := 0) (by decide) 1 99999999 (fun g => if_pos rfl) (fun h2 s2 e2 t2 P2 w2 _ _ _ a b => ?_)
    dsimp only
    rw [if_neg (show ¬ b2i true = 0 by decide)]
    obtain ⟨n, hn, en⟩ := w2.1.1
    obtain ⟨j, j1, j2, ej⟩ := range_of (a := 1) (b := 99999999) rfl rfl (by decide) (by decide) a b
    rw [m2, Option.bind_some]
    by_cases q : 12 ≤ rd h2 141 2
    · rw [if_pos q]
      exact stops_res P2 w2 false (K := fun g => (rdO 3 (rd g 149) 0).bind fun t6 => (M_adds g t6).bind fun u => some (true, u.2)) (fun q => by cases q)
    · rw [if_neg q]
      refine stops_res P2 w2 true (K := fun g => (rdO 3 (rd g 149) 0).bind fun t6 => (M_adds g t6).bind fun u => some (true, u.2)) (fun _ => ?_)
      obtain ⟨k, hk, ek⟩ := room_ok (m := 12) (n := 12) (by decide) w2.1.1 (by decide) q
      obtain ⟨h8, e8, m8⟩ := madds_x w2 ek hk (p := nI j) ⟨j, j2, rfl⟩
      exact ⟨h8, by rw [n149_0, Option.bind_some, ej, e8, Option.bind_some], m8⟩
  obtain ⟨b, -, eb, -⟩ := areCol (rd h 140 19)
  by_cases q : rd h 140 16 = 3
  · rw [if_pos q, eb, Option.bind_some]
    by_cases q2 : b2i b = 0
    · obtain ⟨h11, e11, P11, f11, o11⟩ := mfail_ok P 2
      rw [if_pos q2, e11, Option.bind_some]
      exact ⟨false, h11, s, e, t, rfl, P11, by rw [o11 141 (by decide)]; exact w, f11, Nat.le_refl _⟩
    · rw [if_neg q2]; exact j24 rfl ⟨b, eb⟩
  · rw [if_neg q]; exact j24 rfl ⟨b, eb⟩
set_option maxRecDepth 16384 in
theorem readsReel_ok (P : Pt h z s e t) (w : Wfx (rd h 141)) : Res h z e (M_readsReel h) := by
  unfold M_readsReel
  unfold lt
  dsimp only
  refine num_res P w (p := 0) (by decide) 1 9 (fun g => if_pos rfl) (fun h2 s2 e2 t2 P2 w2 _ _ _ a b => ?_)
  dsimp only
  rw [if_neg (show ¬ b2i true = 0 by decide)]
  obtain ⟨j, j1, j2, ej⟩ := range_of (a := 1) (b := 9) rfl rfl (by decide) (by decide) a b
  rw [m3, Option.bind_some]
  by_cases q : 4 ≤ rd h2 141 3
  · rw [if_pos q]
    exact stops_res P2 w2 false (K := fun g => (rdO 3 (rd g 149) 0).bind fun t6 => (M_hangs g t6).bind fun u => some (true, u.2)) (fun q => by cases q)
  · rw [if_neg q]
    refine stops_res P2 w2 true (K := fun g => (rdO 3 (rd g 149) 0).bind fun t6 => (M_hangs g t6).bind fun u => some (true, u.2)) (fun _ => ?_)
    obtain ⟨k, hk, ek⟩ := room_ok (m := 4) (n := 4) (by decide) w2.1.2.1 (by decide) q
    obtain ⟨h8, e8, m8⟩ := mhangs_x w2 ek hk j2 j1
    exact ⟨h8, by rw [n149_0, Option.bind_some, ej, e8, Option.bind_some], m8⟩
set_option maxRecDepth 16384 in
theorem readsScene_ok (P : Pt h z s e t) (w : Wfx (rd h 141)) : Res h z e (M_readsScene h) := by
  unfold M_readsScene
  unfold lt
  dsimp only
  refine num_res P w (p := 0) (by decide) 1 9 (fun g => if_pos rfl) (fun h2 s2 e2 t2 P2 w2 _ _ _ a b => ?_)
  dsimp only
  rw [if_neg (show ¬ b2i true = 0 by decide)]
  obtain ⟨j, j1, j2, ej⟩ := range_of (a := 1) (b := 9) rfl rfl (by decide) (by decide) a b
  rw [m4, Option.bind_some]
  by_cases q : 5 ≤ rd h2 141 4
  · rw [if_pos q]
    exact stops_res P2 w2 false (K := fun g => (rdO 3 (rd g 149) 0).bind fun t6 => (M_opens g t6).bind fun u => some (true, u.2)) (fun q => by cases q)
  · rw [if_neg q]
    refine stops_res P2 w2 true (K := fun g => (rdO 3 (rd g 149) 0).bind fun t6 => (M_opens g t6).bind fun u => some (true, u.2)) (fun _ => ?_)
    obtain ⟨k, hk, ek⟩ := room_ok (m := 5) (n := 5) (by decide) w2.1.2.2.1 (by decide) q
    obtain ⟨h8, e8, m8⟩ := mopens_x w2 ek hk (nI j)
    exact ⟨h8, by rw [n149_0, Option.bind_some, ej, e8, Option.bind_some], m8⟩
set_option maxRecDepth 16384 in
theorem clip_res (P : Pt h z s e t) (w : Wfx (rd h 141)) {p : Nat} (hp : p < 3) {K : Bool × Hp → Option (Bool × Hp)} (hF : ∀ g, K (false, g) = some (false, g)) (hK : ∀ h2 s2 e2 t2, Pt h2 z s2 e2 t2 → Wfx (rd h2 141) → rd h2 141 = rd h 141 → (∀ i, i ≠ p → rd h2 149 i = rd h 149 i) → (∃ c, c < 12 ∧ rd h2 149 p = nI c ∧ c < vn (rd h2 141 2)) → Res h2 z e2 (K (true, h2))) : Res h z e ((M_clipAt h (nI p)).bind K) := by
  obtain ⟨nc, hnc, enc⟩ := w.1.1
  have e1 : M_clipAt h (nI p) = M_number h (nI p) 0 (nI nc - 1) := by
    unfold M_clipAt
    rw [m2, Option.bind_some, enc]
    cases M_number h (nI p) 0 (nI nc - 1) <;> rfl
  rw [e1]
  refine num_res P w hp 0 (nI nc - 1) hF (fun h2 s2 e2 t2 P2 w2 q2 o2 _ a b => ?_)
  obtain ⟨j, hj, ej⟩ := range_pred (by omega) a b
  exact hK h2 s2 e2 t2 P2 w2 q2 o2 ⟨j, by omega, ej, by rw [q2, enc, vn_nI (by omega)]; exact hj⟩
set_option maxRecDepth 16384 in
theorem readsSleep_ok (P : Pt h z s e t) (w : Wfx (rd h 141)) : Res h z e (M_readsSleep h) := by
  unfold M_readsSleep
  unfold lt
  dsimp only
  refine clip_res P w (p := 0) (by decide) (fun g => if_pos rfl) (fun h2 s2 e2 t2 P2 w2 _ _ hc => ?_)
  dsimp only
  rw [if_neg (show ¬ b2i true = 0 by decide)]
  obtain ⟨c, hc, ec, hcn⟩ := hc
  obtain ⟨nr, hnr, enr⟩ := w2.1.2.1
  rw [m3, Option.bind_some, enr]
  refine num_res P2 w2 (p := 1) (by decide) 0 (nI nr - 1) (fun g => if_pos rfl) (fun h5 s5 e5 t5 P5 w5 q5 o5 _ a b => ?_)
  dsimp only
  rw [if_neg (show ¬ b2i true = 0 by decide)]
  obtain ⟨r, hr, er⟩ := range_pred (by omega) a b
  have ec5 : rd h5 149 0 = nI c := by rw [o5 0 (by decide), ec]
  rw [n149_0, Option.bind_some, n149_1, Option.bind_some, ec5, er]
  obtain ⟨v, ev, pv⟩ := mwhy_ok w5.1 hc (by omega : r < 4)
  rw [ev, Option.bind_some]
  by_cases q : v = 0
  · rw [if_pos q]
    refine stops_res P5 w5 true (K := fun g => (rdO 3 (rd g 149) 0).bind fun t11 => (rdO 3 (rd g 149) 1).bind fun t12 => (M_liesDown g t11 t12).bind fun u => some (true, u.2)) (fun _ => ?_)
    obtain ⟨vd, h8, e8, m8⟩ := mliesDown_x w5 (by rw [q5]; exact hcn) (by rw [q5, enr, vn_nI (by omega)]; exact hr) (by rw [(pv q).1]; decide) (pv q).2
    exact ⟨_, by rw [n149_0, Option.bind_some, n149_1, Option.bind_some, ec5, er, e8, Option.bind_some], m8⟩
  · rw [if_neg q]
    exact stops_res P5 w5 false (K := fun g => (rdO 3 (rd g 149) 0).bind fun t11 => (rdO 3 (rd g 149) 1).bind fun t12 => (M_liesDown g t11 t12).bind fun u => some (true, u.2)) (fun q => by cases q)
set_option maxRecDepth 16384 in
theorem readsWake_ok (P : Pt h z s e t) (w : Wfx (rd h 141)) : Res h z e (M_readsWake h) := by
  unfold M_readsWake
  unfold lt
  dsimp only
  refine clip_res P w (p := 0) (by decide) (fun g => if_pos rfl) (fun h2 s2 e2 t2 P2 w2 _ _ hc => ?_)
  dsimp only
  rw [if_neg (show ¬ b2i true = 0 by decide)]
  obtain ⟨c, hc, ec, hcn⟩ := hc
  rw [n149_0, Option.bind_some, ec, mof1 hc, Option.bind_some]
  by_cases q : rd h2 141 (8 + 4 * c + 1) = 1
  · rw [if_pos q]
    refine stops_res P2 w2 true (K := fun g => (rdO 3 (rd g 149) 0).bind fun t7 => (M_leaves g t7 0).bind fun u => some (true, u.2)) (fun _ => ?_)
    obtain ⟨v, h8, e8, m8⟩ := mleaves_x w2 hc (x := 0) (by decide)
    exact ⟨_, by rw [n149_0, Option.bind_some, ec, e8, Option.bind_some], m8⟩
  · rw [if_neg q]
    exact stops_res P2 w2 false (K := fun g => (rdO 3 (rd g 149) 0).bind fun t7 => (M_leaves g t7 0).bind fun u => some (true, u.2)) (fun q => by cases q)
set_option maxRecDepth 16384 in
theorem readsCut_ok (P : Pt h z s e t) (w : Wfx (rd h 141)) : Res h z e (M_readsCut h) := by
  unfold M_readsCut
  obtain ⟨ns, hns, ens⟩ := w.1.2.2.1
  rw [m4, Option.bind_some, ens]
  refine num_res P w (p := 0) (by decide) 0 (nI ns - 1) (fun g => if_pos rfl) (fun h3 s3 e3 t3 P3 w3 _ _ _ a b => ?_)
  dsimp only
  rw [if_neg (show ¬ b2i true = 0 by decide)]
  obtain ⟨c, hc, ec⟩ := range_pred (by omega) a b
  refine num_res P3 w3 (p := 1) (by decide) 1 9999 (fun g => if_pos rfl) (fun h5 s5 e5 t5 P5 w5 _ o5 _ a b => ?_)
  dsimp only
  rw [if_neg (show ¬ b2i true = 0 by decide)]
  obtain ⟨j, j1, j2, ej⟩ := range_of (a := 1) (b := 9999) rfl rfl (by decide) (by decide) a b
  refine stops_res P5 w5 true (K := fun g => (rdO 3 (rd g 149) 0).bind fun t8 => (rdO 3 (rd g 149) 1).bind fun t9 => (M_cuts g t8 t9).bind fun u => some (true, u.2)) (fun _ => ?_)
  obtain ⟨v, h8, e8, m8⟩ := mcuts_x w5 (by omega : c < 5) (y := nI j) ⟨j, by omega, rfl⟩
  exact ⟨_, by rw [n149_0, Option.bind_some, n149_1, Option.bind_some, o5 0 (by decide), ec, ej, e8, Option.bind_some], m8⟩
set_option maxRecDepth 16384 in
theorem readsAir_ok (P : Pt h z s e t) (w : Wfx (rd h 141)) : Res h z e (M_readsAir h) := by
  unfold M_readsAir
  obtain ⟨nr, hnr, enr⟩ := w.1.2.1
  rw [m3, Option.bind_some, enr]
  refine num_res P w (p := 0) (by decide) 0 (nI nr - 1) (fun g => if_pos rfl) (fun h3 s3 e3 t3 P3 w3 q3 _ _ a b => ?_)
  dsimp only
  rw [if_neg (show ¬ b2i true = 0 by decide)]
  obtain ⟨r, hr, er⟩ := range_pred (by omega) a b
  refine stops_res P3 w3 true (K := fun g => (rdO 3 (rd g 149) 0).bind fun t6 => (M_airs g t6).bind fun u => some (true, u.2)) (fun _ => ?_)
  obtain ⟨v, h8, e8, m8⟩ := mairs_x w3 (by rw [q3, enr, vn_nI (by omega)]; exact hr)
  exact ⟨_, by rw [n149_0, Option.bind_some, er, e8, Option.bind_some], m8⟩
set_option maxRecDepth 16384 in
theorem readsFeed_ok (P : Pt h z s e t) (w : Wfx (rd h 141)) : Res h z e (M_readsFeed h) := by
  unfold M_readsFeed
  refine clip_res P w (p := 0) (by decide) (fun g => if_pos rfl) (fun h2 s2 e2 t2 P2 w2 _ _ hc => ?_)
  dsimp only
  rw [if_neg (show ¬ b2i true = 0 by decide)]
  obtain ⟨c, hc, ec, hcn⟩ := hc
  refine num_res P2 w2 (p := 1) (by decide) 1 50 (fun g => if_pos rfl) (fun h4 s4 e4 t4 P4 w4 q4 o4 _ a b => ?_)
  dsimp only
  rw [if_neg (show ¬ b2i true = 0 by decide)]
  obtain ⟨j, j1, j2, ej⟩ := range_of (a := 1) (b := 50) rfl rfl (by decide) (by decide) a b
  have ec4 : rd h4 149 0 = nI c := by rw [o4 0 (by decide), ec]
  obtain ⟨b, eb, pb⟩ := mcanFeed_ok (h := h4) hc (nI j)
  rw [n149_0, Option.bind_some, n149_1, Option.bind_some, ec4, ej, eb, Option.bind_some]
  refine stops_res P4 w4 b (K := fun g => (rdO 3 (rd g 149) 0).bind fun t10 => (rdO 3 (rd g 149) 1).bind fun t11 => (M_feeds g t10 t11).bind fun u => some (true, u.2)) (fun q => ?_)
  obtain ⟨v, h8, e8, m8⟩ := mfeeds_x w4 (by rw [q4]; exact hcn) j2 (pb q).2.2
  exact ⟨_, by rw [n149_0, Option.bind_some, n149_1, Option.bind_some, ec4, ej, e8, Option.bind_some], m8⟩
set_option maxRecDepth 16384 in
theorem readsFood_ok (P : Pt h z s e t) (w : Wfx (rd h 141)) : Res h z e (M_readsFood h) := by
  unfold M_readsFood
  unfold lt
  dsimp only
  refine num_res P w (p := 0) (by decide) 1 999 (fun g => if_pos rfl) (fun h2 s2 e2 t2 P2 w2 _ _ _ a b => ?_)
  dsimp only
  rw [if_neg (show ¬ b2i true = 0 by decide)]
  have y1 : ∀ g : Hp, rdO 106 (rd g 141) 1 = some (rd g 141 1) := fun g => r106 (i := 1) (by decide)
  have x1 : ∀ (g : Hp) (x : Int32), wrO g 141 106 1 x = some (up2 g 141 1 x) := fun g x => w106 (i := 1) (by decide) x
  rw [y1, Option.bind_some, n149_0, Option.bind_some]
  by_cases q : 9999 < rd h2 141 1 + rd h2 149 0
  · rw [if_pos q]
    exact stops_res P2 w2 false (K := fun g => (rdO 106 (rd g 141) 1).bind fun t7 => (rdO 3 (rd g 149) 0).bind fun t8 => (wrO g 141 106 1 (t7 + t8)).bind fun h9 => some (true, h9)) (fun q => by cases q)
  · rw [if_neg q]
    refine stops_res P2 w2 true (K := fun g => (rdO 106 (rd g 141) 1).bind fun t7 => (rdO 3 (rd g 149) 0).bind fun t8 => (wrO g 141 106 1 (t7 + t8)).bind fun h9 => some (true, h9)) (fun _ => ?_)
    exact ⟨_, by rw [y1, Option.bind_some, n149_0, Option.bind_some, x1, Option.bind_some], mz_up (Mz.rf w2) (wfx_free w2 (by omega))⟩
set_option maxRecDepth 16384 in
theorem readsPaint_ok (P : Pt h z s e t) (w : Wfx (rd h 141)) : Res h z e (M_readsPaint h) := by
  unfold M_readsPaint
  unfold lt
  dsimp only
  refine clip_res P w (p := 0) (by decide) (fun g => if_pos rfl) (fun h2 s2 e2 t2 P2 w2 _ _ hc => ?_)
  dsimp only
  rw [if_neg (show ¬ b2i true = 0 by decide)]
  obtain ⟨c, hc, ec, hcn⟩ := hc
  obtain ⟨d, hd, ed, -, -⟩ := mdigits_ok (w2.1.2.2.2.1 c hc)
  rw [n149_0, Option.bind_some, ec, mof0 hc, Option.bind_some, ed, Option.bind_some]
  refine num_res P2 w2 (p := 1) (by decide) 0 (nI d - 1) (fun g => if_pos rfl) (fun h7 s7 e7 t7 P7 w7 _ o7 _ a b => ?_)
  dsimp only
  rw [if_neg (show ¬ b2i true = 0 by decide)]
  obtain ⟨i, hi, ei⟩ := range_pred (by omega) a b
  refine num_res P7 w7 (p := 2) (by decide) 1 9 (fun g => if_pos rfl) (fun h9 s9 e9 t9 P9 w9 _ o9 _ a b => ?_)
  dsimp only
  rw [if_neg (show ¬ b2i true = 0 by decide)]
  obtain ⟨j, j1, j2, ej⟩ := range_of (a := 1) (b := 9) rfl rfl (by decide) (by decide) a b
  have ec9 : rd h9 149 0 = nI c := by rw [o9 0 (by decide), o7 0 (by decide), ec]
  rw [n149_0, Option.bind_some, ec9, mof1 hc, Option.bind_some]
  by_cases q : rd h9 141 (8 + 4 * c + 1) = 0
  · rw [if_pos q]
    refine stops_res P9 w9 true (K := fun g => (rdO 3 (rd g 149) 0).bind fun t14 => (rdO 3 (rd g 149) 1).bind fun t15 => (rdO 3 (rd g 149) 2).bind fun t16 => (M_paints g t14 t15 t16).bind fun u => some (true, u.2)) (fun _ => ?_)
    obtain ⟨v, h8, e8, m8⟩ := mpaints_x w9 hc (by rw [q]; decide) j2 (rd h9 149 1)
    exact ⟨_, by rw [n149_0, Option.bind_some, n149_1, Option.bind_some, n149_2, Option.bind_some, ec9, ej, e8, Option.bind_some], m8⟩
  · rw [if_neg q]
    exact stops_res P9 w9 false (K := fun g => (rdO 3 (rd g 149) 0).bind fun t14 => (rdO 3 (rd g 149) 1).bind fun t15 => (rdO 3 (rd g 149) 2).bind fun t16 => (M_paints g t14 t15 t16).bind fun u => some (true, u.2)) (fun q => by cases q)
set_option maxRecDepth 16384 in
theorem readsWeeks_ok (P : Pt h z s e t) (w : Wfx (rd h 141)) : Res h z e (M_readsWeeks h) := by
  unfold M_readsWeeks
  unfold lt
  dsimp only
  refine num_res P w (p := 0) (by decide) 1 50 (fun g => if_pos rfl) (fun h2 s2 e2 t2 P2 w2 _ _ _ a b => ?_)
  dsimp only
  rw [if_neg (show ¬ b2i true = 0 by decide)]
  obtain ⟨j, j1, j2, ej⟩ := range_of (a := 1) (b := 50) rfl rfl (by decide) (by decide) a b
  have y0 : ∀ g : Hp, rdO 106 (rd g 141) 0 = some (rd g 141 0) := fun g => r106 (i := 0) (by decide)
  rw [y0, Option.bind_some, n149_0, Option.bind_some]
  by_cases q : 999 < rd h2 141 0 + rd h2 149 0
  · rw [if_pos q]
    exact stops_res P2 w2 false (K := fun g => (rdO 3 (rd g 149) 0).bind fun t7 => (M_passes g t7).bind fun u => some (true, u.2)) (fun q => by cases q)
  · rw [if_neg q]
    refine stops_res P2 w2 true (K := fun g => (rdO 3 (rd g 149) 0).bind fun t7 => (M_passes g t7).bind fun u => some (true, u.2)) (fun _ => ?_)
    obtain ⟨v, h8, e8, m8⟩ := mpasses_x w2 j2
    exact ⟨_, by rw [n149_0, Option.bind_some, ej, e8, Option.bind_some], m8⟩
set_option maxRecDepth 16384 in
theorem readsWord_ok (P : Pt h z s e t) (w : Wfx (rd h 141)) {k : Nat} (hk : k < 11) : Res h z e (M_readsWord h (nI k)) := by
  unfold M_readsWord
  match k, hk with
  | 0, _ =>
    rw [if_pos (by decide)]
    exact res_id (readsClip_ok P w)
  | 1, _ =>
    rw [if_neg (by decide), if_pos (by decide)]
    exact res_id (readsReel_ok P w)
  | 2, _ =>
    rw [if_neg (by decide), if_neg (by decide), if_pos (by decide)]
    exact res_id (readsScene_ok P w)
  | 3, _ =>
    rw [if_neg (by decide), if_neg (by decide), if_neg (by decide), if_pos (by decide)]
    exact res_id (readsSleep_ok P w)
  | 4, _ =>
    rw [if_neg (by decide), if_neg (by decide), if_neg (by decide), if_neg (by decide), if_pos (by decide)]
    exact res_id (readsWake_ok P w)
  | 5, _ =>
    rw [if_neg (by decide), if_neg (by decide), if_neg (by decide), if_neg (by decide), if_neg (by decide), if_pos (by decide)]
    exact res_id (readsCut_ok P w)
  | 6, _ =>
    rw [if_neg (by decide), if_neg (by decide), if_neg (by decide), if_neg (by decide), if_neg (by decide), if_neg (by decide), if_pos (by decide)]
    exact res_id (readsAir_ok P w)
  | 7, _ =>
    rw [if_neg (by decide), if_neg (by decide), if_neg (by decide), if_neg (by decide), if_neg (by decide), if_neg (by decide), if_neg (by decide), if_pos (by decide)]
    exact res_id (readsFeed_ok P w)
  | 8, _ =>
    rw [if_neg (by decide), if_neg (by decide), if_neg (by decide), if_neg (by decide), if_neg (by decide), if_neg (by decide), if_neg (by decide), if_neg (by decide), if_pos (by decide)]
    exact res_id (readsFood_ok P w)
  | 9, _ =>
    rw [if_neg (by decide), if_neg (by decide), if_neg (by decide), if_neg (by decide), if_neg (by decide), if_neg (by decide), if_neg (by decide), if_neg (by decide), if_neg (by decide), if_pos (by decide)]
    exact res_id (readsPaint_ok P w)
  | 10, _ =>
    rw [if_neg (by decide), if_neg (by decide), if_neg (by decide), if_neg (by decide), if_neg (by decide), if_neg (by decide), if_neg (by decide), if_neg (by decide), if_neg (by decide), if_neg (by decide)]
    exact res_id (readsWeeks_ok P w)
  | k + 11, hk => exact absurd hk (by omega)
set_option maxRecDepth 16384 in
theorem laterWord_ok (P : Pt h z s e t) : ∃ v, M_laterWord h = some v ∧ ((v = -1) ∨ ∃ k, k < 12 ∧ v = nI k) ∧ (t ≠ 2 → v = -1) := by
  unfold M_laterWord
  obtain ⟨b0, eb0, pb0⟩ := says_ok P (c := 106) (by decide)
  have eb0 : M_says h 106 = some b0 := eb0
  rw [eb0, Option.bind_some]
  by_cases q0 : b2i b0 = 0
  case neg => rw [if_neg q0]; exact ⟨_, rfl, Or.inr ⟨6, by decide, rfl⟩, fun w => absurd (by rw [pb0 w]; rfl) q0⟩
  rw [if_pos q0]
  obtain ⟨b1, eb1, pb1⟩ := says_ok P (c := 107) (by decide)
  have eb1 : M_says h 107 = some b1 := eb1
  rw [eb1, Option.bind_some]
  by_cases q1 : b2i b1 = 0
  case neg => rw [if_neg q1]; exact ⟨_, rfl, Or.inr ⟨7, by decide, rfl⟩, fun w => absurd (by rw [pb1 w]; rfl) q1⟩
  rw [if_pos q1]
  obtain ⟨b2, eb2, pb2⟩ := says_ok P (c := 108) (by decide)
  have eb2 : M_says h 108 = some b2 := eb2
  rw [eb2, Option.bind_some]
  by_cases q2 : b2i b2 = 0
  case neg => rw [if_neg q2]; exact ⟨_, rfl, Or.inr ⟨8, by decide, rfl⟩, fun w => absurd (by rw [pb2 w]; rfl) q2⟩
  rw [if_pos q2]
  obtain ⟨b3, eb3, pb3⟩ := says_ok P (c := 109) (by decide)
  have eb3 : M_says h 109 = some b3 := eb3
  rw [eb3, Option.bind_some]
  by_cases q3 : b2i b3 = 0
  case neg => rw [if_neg q3]; exact ⟨_, rfl, Or.inr ⟨9, by decide, rfl⟩, fun w => absurd (by rw [pb3 w]; rfl) q3⟩
  rw [if_pos q3]
  obtain ⟨b4, eb4, pb4⟩ := says_ok P (c := 110) (by decide)
  have eb4 : M_says h 110 = some b4 := eb4
  rw [eb4, Option.bind_some]
  by_cases q4 : b2i b4 = 0
  case neg => rw [if_neg q4]; exact ⟨_, rfl, Or.inr ⟨10, by decide, rfl⟩, fun w => absurd (by rw [pb4 w]; rfl) q4⟩
  rw [if_pos q4]
  obtain ⟨b5, eb5, pb5⟩ := says_ok P (c := 111) (by decide)
  have eb5 : M_says h 111 = some b5 := eb5
  rw [eb5, Option.bind_some]
  by_cases q5 : b2i b5 = 0
  case neg => rw [if_neg q5]; exact ⟨_, rfl, Or.inr ⟨11, by decide, rfl⟩, fun w => absurd (by rw [pb5 w]; rfl) q5⟩
  rw [if_pos q5]
  exact ⟨-1, rfl, Or.inl rfl, fun _ => rfl⟩
set_option maxRecDepth 16384 in
theorem wordAhead_ok (P : Pt h z s e t) : ∃ v, M_wordAhead h = some v ∧ ((v = -1) ∨ ∃ k, k < 12 ∧ v = nI k) ∧ (t ≠ 2 → v = -1) := by
  unfold M_wordAhead
  obtain ⟨b0, eb0, pb0⟩ := says_ok P (c := 100) (by decide)
  have eb0 : M_says h 100 = some b0 := eb0
  rw [eb0, Option.bind_some]
  by_cases q0 : b2i b0 = 0
  case neg => rw [if_neg q0]; exact ⟨_, rfl, Or.inr ⟨0, by decide, rfl⟩, fun w => absurd (by rw [pb0 w]; rfl) q0⟩
  rw [if_pos q0]
  obtain ⟨b1, eb1, pb1⟩ := says_ok P (c := 101) (by decide)
  have eb1 : M_says h 101 = some b1 := eb1
  rw [eb1, Option.bind_some]
  by_cases q1 : b2i b1 = 0
  case neg => rw [if_neg q1]; exact ⟨_, rfl, Or.inr ⟨1, by decide, rfl⟩, fun w => absurd (by rw [pb1 w]; rfl) q1⟩
  rw [if_pos q1]
  obtain ⟨b2, eb2, pb2⟩ := says_ok P (c := 102) (by decide)
  have eb2 : M_says h 102 = some b2 := eb2
  rw [eb2, Option.bind_some]
  by_cases q2 : b2i b2 = 0
  case neg => rw [if_neg q2]; exact ⟨_, rfl, Or.inr ⟨2, by decide, rfl⟩, fun w => absurd (by rw [pb2 w]; rfl) q2⟩
  rw [if_pos q2]
  obtain ⟨b3, eb3, pb3⟩ := says_ok P (c := 103) (by decide)
  have eb3 : M_says h 103 = some b3 := eb3
  rw [eb3, Option.bind_some]
  by_cases q3 : b2i b3 = 0
  case neg => rw [if_neg q3]; exact ⟨_, rfl, Or.inr ⟨3, by decide, rfl⟩, fun w => absurd (by rw [pb3 w]; rfl) q3⟩
  rw [if_pos q3]
  obtain ⟨b4, eb4, pb4⟩ := says_ok P (c := 104) (by decide)
  have eb4 : M_says h 104 = some b4 := eb4
  rw [eb4, Option.bind_some]
  by_cases q4 : b2i b4 = 0
  case neg => rw [if_neg q4]; exact ⟨_, rfl, Or.inr ⟨4, by decide, rfl⟩, fun w => absurd (by rw [pb4 w]; rfl) q4⟩
  rw [if_pos q4]
  obtain ⟨b5, eb5, pb5⟩ := says_ok P (c := 105) (by decide)
  have eb5 : M_says h 105 = some b5 := eb5
  rw [eb5, Option.bind_some]
  by_cases q5 : b2i b5 = 0
  case neg => rw [if_neg q5]; exact ⟨_, rfl, Or.inr ⟨5, by decide, rfl⟩, fun w => absurd (by rw [pb5 w]; rfl) q5⟩
  rw [if_pos q5]
  obtain ⟨v, ev, p1, p2⟩ := laterWord_ok P
  rw [ev, Option.bind_some]
  exact ⟨v, rfl, p1, p2⟩
/-- a command's result: true only if the token at its start was no end -/
def ResC (h : Hp) (z e t : Nat) (r : Option (Bool × Hp)) : Prop := ∃ b h' s' e' t', r = some (b, h') ∧ Pt h' z s' e' t' ∧ Wfx (rd h' 141) ∧ Pf h h' ∧ e ≤ e' ∧ (b = true → t ≠ 0)
set_option maxRecDepth 16384 in
theorem resC_of {r : Option (Bool × Hp)} (q : Res h z e r) (h0 : t ≠ 0) : ResC h z e t r := by
  obtain ⟨b, h', s', e', t', rfl, P, w, f, l⟩ := q
  exact ⟨b, h', s', e', t', rfl, P, w, f, l, fun _ => h0⟩
set_option maxRecDepth 16384 in
theorem fail_resC (P : Pt h z s e t) (w : Wfx (rd h 141)) (x : Int32) : ResC h z e t ((M_fail h x).bind fun u => some (u.1, u.2)) := by
  obtain ⟨h', e', P', f', o'⟩ := mfail_ok P x
  rw [e', Option.bind_some]
  exact ⟨false, h', s, e, t, rfl, P', by rw [o' 141 (by decide)]; exact w, f', Nat.le_refl _, fun q => by cases q⟩
/-- what the loop over a body leaves -/
def ResL (h : Hp) (z e : Nat) (r : Option (Hp ⊕ (Bool × Hp))) : Prop := ∃ y h' s' e' t', r = some y ∧ (y = .inl h' ∨ ∃ b, y = .inr (b, h')) ∧ Pt h' z s' e' t' ∧ Wfx (rd h' 141) ∧ Pf h h' ∧ e ≤ e'
end
set_option maxRecDepth 16384 in
theorem cmd0_ok {h : Hp} {z s e t : Nat} (P : Pt h z s e t) (w : Wfx (rd h 141)) : ResC h z e t (M_readsCommand_0 h 2) := by
  unfold M_readsCommand_0
  obtain ⟨v, ev, pv, p2⟩ := wordAhead_ok P
  rw [ev, Option.bind_some]
  by_cases q : v = -1
  · rw [if_pos q]; exact fail_resC P w 1
  · have h0 : t ≠ 0 := fun c => q (p2 (by rw [c]; decide))
    obtain ⟨k, hk, rfl⟩ := pv.resolve_left q
    rw [if_neg q]
    by_cases q1 : nI k = 11
    · rw [if_pos q1]
      rw [if_pos rfl]
      exact fail_resC P w 4
    · have hk11 : k < 11 := by
        by_cases c : k = 11
        · subst c; exact absurd rfl q1
        · omega
      rw [if_neg q1]
      by_cases q2 : rd h 140 20 = 200
      · rw [if_pos q2]; exact fail_resC P w 5
      · rw [if_neg q2]
        unfold nm
        dsimp only
        obtain ⟨h10, e10⟩ : ∃ h10, h10 = up2 h 140 20 (rd h 140 20 + 1) := ⟨_, rfl⟩
        have P10 : Pt h10 z s e t := P.cg fun i hi => by rw [e10, u140, if_neg (by omega)]
        obtain ⟨h12, s12, e12, t12, eq12, P12, f12, o12, l12, -⟩ := next_ok P10
        rw [← e10, eq12, Option.bind_some]
        have f10 : Pf h h10 := by rw [e10]; exact (Pf.rf h).up (by omega)
        exact resC_of (res_id (res_tr (f10.tr f12) l12 (readsWord_ok P12 (by rw [o12 141 (by decide), e10, rd_up2_ne (by decide)]; exact w) hk11))) h0
set_option maxRecDepth 16384 in
theorem body1_ok {h : Hp} {z s e t : Nat} (P : Pt h z s e t) (w : Wfx (rd h 141)) : ResL h z e (M_readsRepeat_1_L51 1 FU h) := by
  have X := loop0 (fun n (g : Hp) _ => M_readsRepeat_1_L51 1 n g) 601 (fun g v => ∃ s' e' t', Pt g z s' e' t' ∧ Wfx (rd g 141) ∧ Pf h g ∧ e ≤ e' ∧ (t' ≠ 0 → v ≤ e')) (fun y => ∃ h' s' e' t', (y = .inl h' ∨ ∃ b, y = .inr (b, h')) ∧ Pt h' z s' e' t' ∧ Wfx (rd h' 141) ∧ Pf h h' ∧ e ≤ e') (by decide) (fun n g v hv hj => by
    obtain ⟨s', e', t', Pg, wg, fg, lg, vg⟩ := hj
    rw [M_readsRepeat_1_L51]
    by_cases q : rd g 140 16 = 5
    · exact Or.inl ⟨_, if_pos q, g, s', e', t', Or.inl rfl, Pg, wg, fg, lg⟩
    · rw [if_neg q]
      obtain ⟨b, h10, s10, e10, t10, eq, P10, w10, f10, l10, pb⟩ := cmd0_ok Pg wg
      have eq : M_readsCommand_0 g (1 + 1) = some (b, h10) := eq
      rw [eq, Option.bind_some]
      match b, pb with
      | false, _ => exact Or.inl ⟨_, rfl, h10, s10, e10, t10, Or.inr ⟨false, rfl⟩, P10, w10, fg.tr f10, by omega⟩
      | true, pb =>
        obtain ⟨h12, s12, e12, t12, eq12, P12, f12, o12, l12, m12⟩ := next_ok P10
        have v1 := vg (pb rfl)
        have z1 := Pg.2.2.1
        have z2 := Pg.1
        dsimp only
        rw [if_neg (by decide), eq12, Option.bind_some]
        exact Or.inr ⟨by omega, h12, ⟨s12, e12, t12, P12, by rw [o12 141 (by decide)]; exact w10, (fg.tr f10).tr f12, by omega, fun w => by have := m12 w; omega⟩, rfl⟩) h ⟨s, e, t, P, w, Pf.rf h, Nat.le_refl _, fun _ => Nat.zero_le _⟩
  obtain ⟨y, ey, h', s', e', t', a, b⟩ := X
  exact ⟨y, h', s', e', t', ey, a, b⟩
set_option maxRecDepth 16384 in
theorem rounds1_ok {h : Hp} {z s e t : Nat} (P : Pt h z s e t) (w : Wfx (rd h 141)) {k : Nat} (hk : k ≤ 20) : ResL h z e (M_readsRepeat_1_L36 1 (nI k) (nI e) FU 0 h) := by
  have X := loop0 (fun n (g : Hp) v => M_readsRepeat_1_L36 1 (nI k) (nI e) n (nI v) g) 20 (fun g v => ∃ s' e' t', Pt g z s' e' t' ∧ Wfx (rd g 141) ∧ Pf h g ∧ e ≤ e') (fun y => ∃ h' s' e' t', (y = .inl h' ∨ ∃ b, y = .inr (b, h')) ∧ Pt h' z s' e' t' ∧ Wfx (rd h' 141) ∧ Pf h h' ∧ e ≤ e') (by decide) (fun n g v hv hj => by
    obtain ⟨s', e', t', Pg, wg, fg, lg⟩ := hj
    rw [M_readsRepeat_1_L36]
    by_cases q : k ≤ v
    · exact Or.inl ⟨_, if_pos (nI_le q (by omega)), g, s', e', t', Or.inl rfl, Pg, wg, fg, lg⟩
    · rw [if_neg (nI_ge (by omega) (by omega))]
      unfold nm
      dsimp only
      obtain ⟨h6, e6⟩ : ∃ h6, h6 = up2 g 140 18 (nI e) := ⟨_, rfl⟩
      obtain ⟨h8, s8, e8, t8, eq8, P8, f8, o8, l8, -⟩ := next_ok' (h := h6) (z := z) (e := e) P.1 P.2.2.1 (by rw [e6, u140, if_neg (by decide)]; exact Pg.2.2.2.2.1) (by rw [e6, u140, if_pos rfl])
      rw [← e6, eq8, Option.bind_some, nI_1]
      have f6 : Pf h h6 := by rw [e6]; exact fg.up (by omega)
      have w8 : Wfx (rd h8 141) := by rw [o8 141 (by decide), e6, rd_up2_ne (by decide)]; exact wg
      obtain ⟨y, h', s1, e1, t1, ey, py, P1, w1, f1, l1⟩ := body1_ok P8 w8
      rw [ey, Option.bind_some]
      rcases py with rfl | ⟨b, rfl⟩
      · exact Or.inr ⟨by omega, h', ⟨s1, e1, t1, P1, w1, (f6.tr f8).tr f1, by omega⟩, rfl⟩
      · exact Or.inl ⟨_, rfl, h', s1, e1, t1, Or.inr ⟨b, rfl⟩, P1, w1, (f6.tr f8).tr f1, by omega⟩) h ⟨s, e, t, P, w, Pf.rf h, Nat.le_refl _⟩
  obtain ⟨y, ey, h', s', e', t', a, b⟩ := X
  exact ⟨y, h', s', e', t', ey, a, b⟩
set_option maxRecDepth 16384 in
theorem repeat1_ok {h : Hp} {z s e t : Nat} (P : Pt h z s e t) (w : Wfx (rd h 141)) : Res h z e (M_readsRepeat_1 h 1) := by
  unfold M_readsRepeat_1
  refine num_res P w (p := 0) (by decide) 1 20 (fun g => if_pos rfl) (fun h2 s2 e2 t2 P2 w2 _ _ _ a b => ?_)
  dsimp only
  rw [if_neg (show ¬ b2i true = 0 by decide)]
  obtain ⟨j, j1, j2, ej⟩ := range_of (a := 1) (b := 20) rfl rfl (by decide) (by decide) a b
  obtain ⟨c, h4, e4, P4, f4, o4, p4⟩ := mis_ok P2 (p := 4) (by decide)
  have e4 : M_is h2 4 = some (c, h4) := e4
  rw [e4, Option.bind_some]
  match c, p4 with
  | false, _ => exact ⟨false, h4, s2, e2, t2, rfl, P4, by rw [o4 141 (by decide)]; exact w2, f4, Nat.le_refl _⟩
  | true, p4 =>
    obtain ⟨-, rfl⟩ := p4 rfl
    dsimp only
    rw [if_neg (by decide), n149_0, Option.bind_some, ej, P2.2.2.2.2.2.2.1]
    obtain ⟨y, h', s1, e1, t1, ey, py, P1, w1, f1, l1⟩ := rounds1_ok P2 w2 j2
    rw [ey, Option.bind_some]
    rcases py with rfl | ⟨b, rfl⟩
    · dsimp only
      obtain ⟨h18, s18, e18, t18, eq18, P18, f18, o18, l18, -⟩ := next_ok P1
      obtain ⟨b, h20, e20, P20, f20, o20, -⟩ := mis_ok P18 (p := 1) (by decide)
      have e20 : M_is h18 1 = some (b, h20) := e20
      rw [eq18, Option.bind_some, e20, Option.bind_some]
      exact ⟨b, h20, s18, e18, t18, rfl, P20, by rw [o20 141 (by decide), o18 141 (by decide)]; exact w1, (f1.tr f18).tr f20, by omega⟩
    · exact ⟨b, h', s1, e1, t1, rfl, P1, w1, f1, l1⟩
set_option maxRecDepth 16384 in
theorem cmd1_ok {h : Hp} {z s e t : Nat} (P : Pt h z s e t) (w : Wfx (rd h 141)) : ResC h z e t (M_readsCommand_1 h 1) := by
  unfold M_readsCommand_1
  obtain ⟨v, ev, pv, p2⟩ := wordAhead_ok P
  rw [ev, Option.bind_some]
  by_cases q : v = -1
  · rw [if_pos q]; exact fail_resC P w 1
  · have h0 : t ≠ 0 := fun c => q (p2 (by rw [c]; decide))
    obtain ⟨k, hk, rfl⟩ := pv.resolve_left q
    rw [if_neg q]
    by_cases q1 : nI k = 11
    · rw [if_pos q1]

      rw [if_neg (by decide)]
      obtain ⟨h7, s7, e7, t7, eq7, P7, f7, o7, l7, -⟩ := next_ok P
      rw [eq7, Option.bind_some]
      exact resC_of (res_id (res_tr f7 l7 (repeat1_ok P7 (by rw [o7 141 (by decide)]; exact w)))) h0
    · have hk11 : k < 11 := by
        by_cases c : k = 11
        · subst c; exact absurd rfl q1
        · omega
      rw [if_neg q1]
      by_cases q2 : rd h 140 20 = 200
      · rw [if_pos q2]; exact fail_resC P w 5
      · rw [if_neg q2]
        unfold nm
        dsimp only
        obtain ⟨h10, e10⟩ : ∃ h10, h10 = up2 h 140 20 (rd h 140 20 + 1) := ⟨_, rfl⟩
        have P10 : Pt h10 z s e t := P.cg fun i hi => by rw [e10, u140, if_neg (by omega)]
        obtain ⟨h12, s12, e12, t12, eq12, P12, f12, o12, l12, -⟩ := next_ok P10
        rw [← e10, eq12, Option.bind_some]
        have f10 : Pf h h10 := by rw [e10]; exact (Pf.rf h).up (by omega)
        exact resC_of (res_id (res_tr (f10.tr f12) l12 (readsWord_ok P12 (by rw [o12 141 (by decide), e10, rd_up2_ne (by decide)]; exact w) hk11))) h0
set_option maxRecDepth 16384 in
theorem body2_ok {h : Hp} {z s e t : Nat} (P : Pt h z s e t) (w : Wfx (rd h 141)) : ResL h z e (M_readsRepeat_2_L51 0 FU h) := by
  have X := loop0 (fun n (g : Hp) _ => M_readsRepeat_2_L51 0 n g) 601 (fun g v => ∃ s' e' t', Pt g z s' e' t' ∧ Wfx (rd g 141) ∧ Pf h g ∧ e ≤ e' ∧ (t' ≠ 0 → v ≤ e')) (fun y => ∃ h' s' e' t', (y = .inl h' ∨ ∃ b, y = .inr (b, h')) ∧ Pt h' z s' e' t' ∧ Wfx (rd h' 141) ∧ Pf h h' ∧ e ≤ e') (by decide) (fun n g v hv hj => by
    obtain ⟨s', e', t', Pg, wg, fg, lg, vg⟩ := hj
    rw [M_readsRepeat_2_L51]
    by_cases q : rd g 140 16 = 5
    · exact Or.inl ⟨_, if_pos q, g, s', e', t', Or.inl rfl, Pg, wg, fg, lg⟩
    · rw [if_neg q]
      obtain ⟨b, h10, s10, e10, t10, eq, P10, w10, f10, l10, pb⟩ := cmd1_ok Pg wg
      have eq : M_readsCommand_1 g (0 + 1) = some (b, h10) := eq
      rw [eq, Option.bind_some]
      match b, pb with
      | false, _ => exact Or.inl ⟨_, rfl, h10, s10, e10, t10, Or.inr ⟨false, rfl⟩, P10, w10, fg.tr f10, by omega⟩
      | true, pb =>
        obtain ⟨h12, s12, e12, t12, eq12, P12, f12, o12, l12, m12⟩ := next_ok P10
        have v1 := vg (pb rfl)
        have z1 := Pg.2.2.1
        have z2 := Pg.1
        dsimp only
        rw [if_neg (by decide), eq12, Option.bind_some]
        exact Or.inr ⟨by omega, h12, ⟨s12, e12, t12, P12, by rw [o12 141 (by decide)]; exact w10, (fg.tr f10).tr f12, by omega, fun w => by have := m12 w; omega⟩, rfl⟩) h ⟨s, e, t, P, w, Pf.rf h, Nat.le_refl _, fun _ => Nat.zero_le _⟩
  obtain ⟨y, ey, h', s', e', t', a, b⟩ := X
  exact ⟨y, h', s', e', t', ey, a, b⟩
set_option maxRecDepth 16384 in
theorem rounds2_ok {h : Hp} {z s e t : Nat} (P : Pt h z s e t) (w : Wfx (rd h 141)) {k : Nat} (hk : k ≤ 20) : ResL h z e (M_readsRepeat_2_L36 0 (nI k) (nI e) FU 0 h) := by
  have X := loop0 (fun n (g : Hp) v => M_readsRepeat_2_L36 0 (nI k) (nI e) n (nI v) g) 20 (fun g v => ∃ s' e' t', Pt g z s' e' t' ∧ Wfx (rd g 141) ∧ Pf h g ∧ e ≤ e') (fun y => ∃ h' s' e' t', (y = .inl h' ∨ ∃ b, y = .inr (b, h')) ∧ Pt h' z s' e' t' ∧ Wfx (rd h' 141) ∧ Pf h h' ∧ e ≤ e') (by decide) (fun n g v hv hj => by
    obtain ⟨s', e', t', Pg, wg, fg, lg⟩ := hj
    rw [M_readsRepeat_2_L36]
    by_cases q : k ≤ v
    · exact Or.inl ⟨_, if_pos (nI_le q (by omega)), g, s', e', t', Or.inl rfl, Pg, wg, fg, lg⟩
    · rw [if_neg (nI_ge (by omega) (by omega))]
      unfold nm
      dsimp only
      obtain ⟨h6, e6⟩ : ∃ h6, h6 = up2 g 140 18 (nI e) := ⟨_, rfl⟩
      obtain ⟨h8, s8, e8, t8, eq8, P8, f8, o8, l8, -⟩ := next_ok' (h := h6) (z := z) (e := e) P.1 P.2.2.1 (by rw [e6, u140, if_neg (by decide)]; exact Pg.2.2.2.2.1) (by rw [e6, u140, if_pos rfl])
      rw [← e6, eq8, Option.bind_some, nI_1]
      have f6 : Pf h h6 := by rw [e6]; exact fg.up (by omega)
      have w8 : Wfx (rd h8 141) := by rw [o8 141 (by decide), e6, rd_up2_ne (by decide)]; exact wg
      obtain ⟨y, h', s1, e1, t1, ey, py, P1, w1, f1, l1⟩ := body2_ok P8 w8
      rw [ey, Option.bind_some]
      rcases py with rfl | ⟨b, rfl⟩
      · exact Or.inr ⟨by omega, h', ⟨s1, e1, t1, P1, w1, (f6.tr f8).tr f1, by omega⟩, rfl⟩
      · exact Or.inl ⟨_, rfl, h', s1, e1, t1, Or.inr ⟨b, rfl⟩, P1, w1, (f6.tr f8).tr f1, by omega⟩) h ⟨s, e, t, P, w, Pf.rf h, Nat.le_refl _⟩
  obtain ⟨y, ey, h', s', e', t', a, b⟩ := X
  exact ⟨y, h', s', e', t', ey, a, b⟩
set_option maxRecDepth 16384 in
theorem repeat2_ok {h : Hp} {z s e t : Nat} (P : Pt h z s e t) (w : Wfx (rd h 141)) : Res h z e (M_readsRepeat_2 h 0) := by
  unfold M_readsRepeat_2
  refine num_res P w (p := 0) (by decide) 1 20 (fun g => if_pos rfl) (fun h2 s2 e2 t2 P2 w2 _ _ _ a b => ?_)
  dsimp only
  rw [if_neg (show ¬ b2i true = 0 by decide)]
  obtain ⟨j, j1, j2, ej⟩ := range_of (a := 1) (b := 20) rfl rfl (by decide) (by decide) a b
  obtain ⟨c, h4, e4, P4, f4, o4, p4⟩ := mis_ok P2 (p := 4) (by decide)
  have e4 : M_is h2 4 = some (c, h4) := e4
  rw [e4, Option.bind_some]
  match c, p4 with
  | false, _ => exact ⟨false, h4, s2, e2, t2, rfl, P4, by rw [o4 141 (by decide)]; exact w2, f4, Nat.le_refl _⟩
  | true, p4 =>
    obtain ⟨-, rfl⟩ := p4 rfl
    dsimp only
    rw [if_neg (by decide), n149_0, Option.bind_some, ej, P2.2.2.2.2.2.2.1]
    obtain ⟨y, h', s1, e1, t1, ey, py, P1, w1, f1, l1⟩ := rounds2_ok P2 w2 j2
    rw [ey, Option.bind_some]
    rcases py with rfl | ⟨b, rfl⟩
    · dsimp only
      obtain ⟨h18, s18, e18, t18, eq18, P18, f18, o18, l18, -⟩ := next_ok P1
      obtain ⟨b, h20, e20, P20, f20, o20, -⟩ := mis_ok P18 (p := 1) (by decide)
      have e20 : M_is h18 1 = some (b, h20) := e20
      rw [eq18, Option.bind_some, e20, Option.bind_some]
      exact ⟨b, h20, s18, e18, t18, rfl, P20, by rw [o20 141 (by decide), o18 141 (by decide)]; exact w1, (f1.tr f18).tr f20, by omega⟩
    · exact ⟨b, h', s1, e1, t1, rfl, P1, w1, f1, l1⟩
set_option maxRecDepth 16384 in
theorem cmd2_ok {h : Hp} {z s e t : Nat} (P : Pt h z s e t) (w : Wfx (rd h 141)) : ResC h z e t (M_readsCommand_2 h 0) := by
  unfold M_readsCommand_2
  obtain ⟨v, ev, pv, p2⟩ := wordAhead_ok P
  rw [ev, Option.bind_some]
  by_cases q : v = -1
  · rw [if_pos q]; exact fail_resC P w 1
  · have h0 : t ≠ 0 := fun c => q (p2 (by rw [c]; decide))
    obtain ⟨k, hk, rfl⟩ := pv.resolve_left q
    rw [if_neg q]
    by_cases q1 : nI k = 11
    · rw [if_pos q1]

      rw [if_neg (by decide)]
      obtain ⟨h7, s7, e7, t7, eq7, P7, f7, o7, l7, -⟩ := next_ok P
      rw [eq7, Option.bind_some]
      exact resC_of (res_id (res_tr f7 l7 (repeat2_ok P7 (by rw [o7 141 (by decide)]; exact w)))) h0
    · have hk11 : k < 11 := by
        by_cases c : k = 11
        · subst c; exact absurd rfl q1
        · omega
      rw [if_neg q1]
      by_cases q2 : rd h 140 20 = 200
      · rw [if_pos q2]; exact fail_resC P w 5
      · rw [if_neg q2]
        unfold nm
        dsimp only
        obtain ⟨h10, e10⟩ : ∃ h10, h10 = up2 h 140 20 (rd h 140 20 + 1) := ⟨_, rfl⟩
        have P10 : Pt h10 z s e t := P.cg fun i hi => by rw [e10, u140, if_neg (by omega)]
        obtain ⟨h12, s12, e12, t12, eq12, P12, f12, o12, l12, -⟩ := next_ok P10
        rw [← e10, eq12, Option.bind_some]
        have f10 : Pf h h10 := by rw [e10]; exact (Pf.rf h).up (by omega)
        exact resC_of (res_id (res_tr (f10.tr f12) l12 (readsWord_ok P12 (by rw [o12 141 (by decide), e10, rd_up2_ne (by decide)]; exact w) hk11))) h0
set_option maxRecDepth 16384 in
theorem readsAll_ok {h : Hp} {z s e t : Nat} (P : Pt h z s e t) (w : Wfx (rd h 141)) : Res h z e (M_readsAll h) := by
  unfold M_readsAll
  obtain ⟨b, eb, -⟩ := says_ok P (c := 112) (by decide)
  have eb : M_says h 112 = some b := eb
  rw [eb, Option.bind_some]
  by_cases q : b2i b = 0
  · obtain ⟨h', e', P', f', o'⟩ := mfail_ok P 1
    rw [if_pos q, e', Option.bind_some]
    exact ⟨false, h', s, e, t, rfl, P', by rw [o' 141 (by decide)]; exact w, f', Nat.le_refl _⟩
  · rw [if_neg q]
    obtain ⟨h5, s5, e5, t5, eq5, P5, f5, o5, l5, -⟩ := next_ok P
    obtain ⟨c, h7, e7, P7, f7, o7, p7⟩ := mis_ok P5 (p := 1) (by decide)
    have e7 : M_is h5 1 = some (c, h7) := e7
    have w5 : Wfx (rd h5 141) := by rw [o5 141 (by decide)]; exact w
    rw [eq5, Option.bind_some, e7, Option.bind_some]
    match c, p7 with
    | false, _ => exact ⟨false, h7, s5, e5, t5, rfl, P7, by rw [o7 141 (by decide)]; exact w5, f5.tr f7, by omega⟩
    | true, p7 =>
      obtain ⟨-, rfl⟩ := p7 rfl
      obtain ⟨h9, s9, e9, t9, eq9, P9, f9, o9, l9, -⟩ := next_ok P5
      have w9 : Wfx (rd h9 141) := by rw [o9 141 (by decide)]; exact w5
      dsimp only
      rw [if_neg (by decide), eq9, Option.bind_some]
      have X := loop0 (fun n (g : Hp) _ => M_readsAll_L34 n g) 601 (fun g v => ∃ s' e' t', Pt g z s' e' t' ∧ Wfx (rd g 141) ∧ Pf h9 g ∧ e9 ≤ e' ∧ (t' ≠ 0 → v ≤ e')) (fun y => ∃ h' s' e' t', (y = .inl h' ∨ ∃ b, y = .inr (b, h')) ∧ Pt h' z s' e' t' ∧ Wfx (rd h' 141) ∧ Pf h9 h' ∧ e9 ≤ e') (by decide) (fun n g v hv hj => by
        obtain ⟨s', e', t', Pg, wg, fg, lg, vg⟩ := hj
        rw [M_readsAll_L34]
        by_cases q : rd g 140 16 = 0
        · exact Or.inl ⟨_, if_pos q, g, s', e', t', Or.inl rfl, Pg, wg, fg, lg⟩
        · rw [if_neg q]
          obtain ⟨b, h10, s10, e10, t10, eq, P10, w10, f10, l10, pb⟩ := cmd2_ok Pg wg
          rw [eq, Option.bind_some]
          match b, pb with
          | false, _ => exact Or.inl ⟨_, rfl, h10, s10, e10, t10, Or.inr ⟨false, rfl⟩, P10, w10, fg.tr f10, by omega⟩
          | true, pb =>
            obtain ⟨h12, s12, e12, t12, eq12, P12, f12, o12, l12, m12⟩ := next_ok P10
            have v1 := vg (pb rfl)
            have z1 := Pg.2.2.1
            have z2 := Pg.1
            dsimp only
            rw [if_neg (by decide), eq12, Option.bind_some]
            exact Or.inr ⟨by omega, h12, ⟨s12, e12, t12, P12, by rw [o12 141 (by decide)]; exact w10, (fg.tr f10).tr f12, by omega, fun w => by have := m12 w; omega⟩, rfl⟩) h9 ⟨s9, e9, t9, P9, w9, Pf.rf h9, Nat.le_refl _, fun _ => Nat.zero_le _⟩
      obtain ⟨y, ey, h', s', e', t', py, P', w', f', l'⟩ := X
      have ey : M_readsAll_L34 FU h9 = some y := ey
      rw [ey, Option.bind_some]
      rcases py with rfl | ⟨b, rfl⟩
      · exact ⟨true, h', s', e', t', rfl, P', w', (f5.tr f9).tr f', by omega⟩
      · exact ⟨b, h', s', e', t', rfl, P', w', (f5.tr f9).tr f', by omega⟩
set_option maxRecDepth 16384 in
theorem wf_zero {f : Nat → Int32} (h : ∀ i, i < 106 → f i = 0) : Wf f := by
  refine ⟨?_, ?_, ?_, fun c hc => ?_, fun c hc => ?_, fun r hr => ?_, fun r hr q => ?_, fun i hi => ?_⟩
  · rw [h 2 (by decide)]; exact ⟨0, by decide, rfl⟩
  · rw [h 3 (by decide)]; exact ⟨0, by decide, rfl⟩
  · rw [h 4 (by decide)]; exact ⟨0, by decide, rfl⟩
  · rw [h _ (by omega)]; exact ⟨0, by decide, rfl⟩
  · rw [h _ (by omega)]; exact ⟨0, by decide, rfl⟩
  · rw [h _ (by omega)]; exact ⟨0, by decide, rfl⟩
  · rw [h 3 (by decide)] at q; exact absurd q (nI_nlt (b := 0) (Nat.zero_le _) (by omega))
  · rw [h _ (by omega)]; exact Or.inr (Or.inr ⟨0, by decide, rfl⟩)
set_option maxRecDepth 16384 in
theorem wfx_zero {f : Nat → Int32} (h : ∀ i, i < 106 → f i = 0) : Wfx f := by
  have v0 : vn 0 = 0 := by decide
  refine ⟨wf_zero h, ?_, ?_⟩
  · unfold LieM
    rw [h 2 (by decide), h 3 (by decide), v0]
    exact Lie.none _ _ _ _
  · unfold AccM
    rw [h 2 (by decide), h 6 (by decide), h 5 (by decide), v0]
    rfl
set_option maxRecDepth 16384 in
theorem parses_ok {h : Hp} {z : Nat} (hz : z ≤ 600) (ez : rd h 140 10 = nI z) : ∃ b h', M_parses h = some (b, h') ∧ Wfx (rd h' 141) ∧ Pf h h' := by
  obtain ⟨h2, e2, a2, o2⟩ := loop0 (fun n (g : Hp) v => M_parses_L2 n (nI v) g) 106 (fun g v => (∀ i, i < v → rd g 141 i = 0) ∧ ∀ k, k ≠ 141 → rd g k = rd h k) (fun g => (∀ i, i < 106 → rd g 141 i = 0) ∧ ∀ k, k ≠ 141 → rd g k = rd h k) (by decide) (fun n g v hv hj => by
    obtain ⟨a, o⟩ := hj
    rw [M_parses_L2]
    by_cases q : 106 ≤ v
    · exact Or.inl ⟨_, if_pos (show (106 : Int32) ≤ nI v from nI_le (a := 106) q (by omega)), fun i hi => a i (by omega), o⟩
    · rw [if_neg (show ¬ (106 : Int32) ≤ nI v from nI_ge (b := 106) (by omega) (by decide)), w106 (by omega), Option.bind_some, nI_1]
      refine Or.inr ⟨by omega, _, ⟨fun i hi => ?_, fun k hk => by rw [rd_up2_ne hk]; exact o k hk⟩, rfl⟩
      rw [rd_up2_self]
      by_cases c : i = v
      · subst c; rw [upd_self]
      · rw [upd_ne c]; exact a i (by omega)) h ⟨fun i hi => absurd hi (Nat.not_lt_zero _), fun _ _ => rfl⟩
  have e2 : M_parses_L2 FU 0 h = some h2 := e2
  have x1 : ∀ x, wrO h2 141 106 1 x = some (up2 h2 141 1 x) := fun x => w106 (i := 1) (by decide) x
  unfold M_parses nm
  rw [e2, Option.bind_some, x1, Option.bind_some]
  dsimp only
  obtain ⟨h7, e7⟩ : ∃ h7, h7 = up2 (up2 (up2 (up2 (up2 h2 141 1 100) 140 11 0) 140 12 (-1)) 140 20 0) 140 18 0 := ⟨_, rfl⟩
  rw [← e7]
  have f7 : Pf h h7 := by
    have f3 : Pf h (up2 h2 141 1 100) := ⟨fun k a b c => by rw [rd_up2_ne b]; exact o2 k b, fun i _ => by rw [rd_up2_ne (by decide), o2 140 (by decide)]⟩
    rw [e7]
    exact (((f3.up (by omega)).up (by omega)).up (by omega)).up (by omega)
  have w7 : Wfx (rd h7 141) := by
    rw [e7, rd_up2_ne (by decide), rd_up2_ne (by decide), rd_up2_ne (by decide), rd_up2_ne (by decide), rd_up2_self]
    exact wfx_free (wfx_zero a2) (by omega)
  obtain ⟨h9, s9, e9, t9, eq9, P9, f9, o9, -, -⟩ := next_ok' (h := h7) (z := z) (e := 0) hz (Nat.zero_le _) (by rw [f7.2 10 (by omega), ez]) (by rw [e7, u140, if_pos rfl]; rfl)
  obtain ⟨b, h', s', e', t', er, -, w', f', -⟩ := readsAll_ok P9 (by rw [o9 141 (by decide)]; exact w7)
  rw [eq9, Option.bind_some, er, Option.bind_some]
  exact ⟨b, h', rfl, w', (f7.tr f9).tr f'⟩
