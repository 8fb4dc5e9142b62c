def ChE (b n K M : Nat) (few : Bool) (gr cu co cv om : cf_O) (rc : cf_O × cf_O) (r : cf_O) : Prop := ∃ (f : Nat) (cv' om' : cf_O), CxF b n K gr cu om' ∧ DwR b n few (cu.2.1 1) cv' om' ∧ RcQ b n gr (b - 1) cv' om' ∧ Fr (fr_M [1] [6] [5]) cv cv' ∧ Fr (fr_M [] [63, 67, 72] []) om om' ∧ (few = false → om'.2.1 63 = om.2.1 63) ∧ cv'.1 1 = mxO (om.2.1 62) gr M ∧ gCv_choose f 1 0 ((gr.1 0) + 1) (fp cv' 0 0) gr cu co = some rc ∧ fM_listCells om' = some r
theorem CxF_o {b n K : Nat} {gr cu om om' : cf_O} (h : CxF b n K gr cu om) (f : Fr (fr_M [] [63, 67, 72] []) om om') : CxF b n K gr cu om' := CxF_f h (f.1 39 rfl) (f.1 40 rfl) (f.1 43 rfl) (f.2.1 44 rfl) (f.2.1 45 rfl) (f.2.1 46 rfl) (f.2.1 47 rfl) (f.2.1 57 rfl) (f.2.1 58 rfl) (f.2.1 59 rfl) (f.2.1 62 rfl)
theorem cc_sim {b n K M : Nat} {gr cu co cv om : cf_O} {rc : cf_O × cf_O} {r : cf_O} (X : CxF b n K gr cu om) (S : CutS b n K cu om) (d0 : cu.2.1 1 0 = 0) (eM : (gr.1 1).toInt = (M : Int)) (h1 : fCv_choose 0 cv gr cu co = some rc) (h2 : fM_chooseCells om = some r) : ChE b n K M false gr cu co cv om rc r := by
  have G := X.1
  have G0 := G.1
  have K5 := X.2.2.2.2.2.2.2
  unfold fCv_choose fCv_choose_0 at h1
  obtain ⟨q, hq, h1⟩ := bd h1
  obtain ⟨s, hs, h1⟩ := bd h1
  rw [opk] at h1
  obtain ⟨w1, w2, w3⟩ := want_sp G eM hq
  have es := size_sp G hs
  have em : (s - 1).toInt = s.toInt - 1 := i_sub' (by omega) (by omega) (by decide) (by decide)
  have h2 : gM_chooseCells cfFU 0 0 0 om = some r := h2
  obtain ⟨f1, o1, y1, y2, h2⟩ := ccz_go (OM := om) cfFU 0 0 om r rfl (by omega) (fun j hj => absurd hj (by omega)) fr_rfl h2
  have X1 : CxF b n K gr cu o1 := CxF_o X (fr_tr fr_rfl y1 rfl rfl rfl)
  obtain ⟨f2, o2, v, ev, y3, y4, h2⟩ := cco_go (OM := o1) G eM f1 0 0 o1 r rfl (Nat.zero_le _) X1.2.1 (WtQ_0 (fun x _ x2 => y2 x (by omega))) fr_rfl h2
  have fo : Fr (fr_M [] [63, 67, 72] []) om o2 := fr_tr (fr_tr fr_rfl y1 rfl rfl rfl) y3 rfl rfl rfl
  have X2 : CxF b n K gr cu o2 := CxF_o X fo
  obtain ⟨D, eq⟩ := dw_0 (few := false) X2 d0 eM w3 y4 (fun z => by cases z)
  obtain ⟨f, cv', om', z1, z2, z3, z4, z5, z6, z7, z8⟩ := dwc_go (CV := q) (OM := om) S K5 cfFU f2 (b + n - 1) (s - 1) v q o2 rc r (by omega) (by omega) (by omega) (by omega) X2 D (fun x x1 x2 _ _ => by omega) fr_rfl fo (by rw [y3.2.1 63 rfl, y1.2.1 63 rfl]) h1 h2
  refine ⟨f, cv', om', z1, z2, z3, fr_tr (fr_tr fr_rfl w1 rfl rfl rfl) z4 rfl rfl rfl, z5, z6, ?_, z7, z8⟩
  rw [z4.1 1 rfl, w2, eq, fo.2.1 62 rfl]
theorem cf_sim {b n K M : Nat} {gr cu co cv om : cf_O} {v4 : Int32} {rc : cf_O × cf_O} {r : cf_O} (hv4 : ¬ v4 = 0) (X : CxF b n K gr cu om) (d0 : cu.2.1 1 0 = 0) (eM : (gr.1 1).toInt = (M : Int)) (h1 : fCv_choose v4 cv gr cu co = some rc) (h2 : fM_chooseFew om = some r) : ChE b n K M true gr cu co cv om rc r := by
  have G := X.1
  have G0 := G.1
  unfold fCv_choose fCv_choose_0 at h1
  obtain ⟨q, hq, h1⟩ := bd h1
  obtain ⟨s, hs, h1⟩ := bd h1
  rw [opk] at h1
  obtain ⟨w1, w2, w3⟩ := want_sp G eM hq
  have es := size_sp G hs
  have em : (s - 1).toInt = s.toInt - 1 := i_sub' (by omega) (by omega) (by decide) (by decide)
  have h2 : gM_chooseFew cfFU 0 0 0 0 0 om = some r := h2
  obtain ⟨f1, o1, y1, y2, h2⟩ := cfz_go (OM := om) cfFU 0 0 om r rfl (by omega) (fun j hj => absurd hj (by omega)) fr_rfl h2
  have X1 : CxF b n K gr cu o1 := CxF_o X (fr_tr fr_rfl y1 rfl rfl rfl)
  obtain ⟨f1', h2⟩ := cfm_go G eM X1.2.1 f1 0 0 0 rfl (Nat.zero_le _) rfl h2
  obtain ⟨f2, o2, v, ev, y3, y4, y5, h2⟩ := cfo_go (OM := o1) G eM f1' 0 0 o1 r rfl (Nat.zero_le _) X1.2.1 (WtQ_0 (fun x _ x2 => y2 x (by omega))) (fun x hx => by
    obtain ⟨j, j1, _⟩ := hx
    omega) fr_rfl h2
  have fo : Fr (fr_M [] [63, 67, 72] []) om o2 := fr_tr (fr_tr fr_rfl y1 rfl rfl rfl) y3 rfl rfl rfl
  have X2 : CxF b n K gr cu o2 := CxF_o X fo
  obtain ⟨D, eq⟩ := dw_0 (few := true) X2 d0 eM w3 y4 (fun _ x hx => by rw [y5 x hx, y3.2.1 62 rfl])
  obtain ⟨f, cv', om', z1, z2, z3, z4, z5, z6, z7, z8⟩ := dwf_go (CV := q) (OM := om) hv4 cfFU f2 (b + n - 1) (s - 1) v q o2 rc r (by omega) (by omega) (by omega) (by omega) X2 D (fun x x1 x2 _ _ => by omega) fr_rfl fo h1 h2
  refine ⟨f, cv', om', z1, z2, z3, fr_tr (fr_tr fr_rfl w1 rfl rfl rfl) z4 rfl rfl rfl, z5, z6, ?_, z7, z8⟩
  rw [z4.1 1 rfl, w2, eq, fo.2.1 62 rfl]
