/-! The ten actions. -/
theorem settle_of (u : RS) (Post : Int32 → RS → Prop) (h : wp_Mod_isSettled u (fun x v => (x = 0 → ((0 : Int32) = 0 → wp_Mod_record v (fun v' => wp_Mod_doSettle v' Post)) ∧ (¬ (0 : Int32) = 0 → Post 0 v)) ∧ (¬ x = 0 → ((-2 : Int32) = 0 → wp_Mod_record v (fun v' => wp_Mod_doSettle v' Post)) ∧ (¬ (-2 : Int32) = 0 → Post (-2) v)))) : wp_Mod_settle u Post := by
  unfold wp_Mod_isSettled at h
  unfold wp_Mod_settle wp_Mod_isSettled
  refine ⟨fun q => ⟨fun z => absurd z (by decide), fun _ => ?_⟩, fun q => ⟨fun _ => ?_, fun z => absurd rfl z⟩⟩
  · exact ((h.1 q).2 (by decide)).2 (by decide)
  · exact ((h.2 q).1 rfl).1 rfl
theorem p_join {z : ZZ} {r : RS} (h : TRx z r) {K : ZZ → RS → Prop} (hK : ∀ z' r', TRx z' r' → K z' r') {mw : (Int32 → RS → Prop) → Prop} (hmw : ∀ Post, wp_Mod_join r Post → mw Post) : wp_Ham_join z (fun x z1 => mw (fun y r1 => (x = y → K z1 r1) ∧ (¬ x = y → False))) :=
  act_sim (cw := fun c P => wp_Clb_addMember c P) (fun c => (sim_join c).two) h hK (fun Post q => hmw Post (join_of r Post q))
theorem p_stick {z : ZZ} {r : RS} (h : TRx z r) {K : ZZ → RS → Prop} (hK : ∀ z' r', TRx z' r' → K z' r') {p1 p2 : Int32} {mw : (Int32 → RS → Prop) → Prop} (hmw : ∀ Post, wp_Mod_stick r p1 p2 Post → mw Post) : wp_Ham_stick z p1 p2 (fun x z1 => mw (fun y r1 => (x = y → K z1 r1) ∧ (¬ x = y → False))) :=
  act_sim (cw := fun c P => wp_Clb_stickStamps c p1 p2 P) (fun c => (sim_stick c p1 p2).two) h hK (fun Post q => hmw Post (q))
theorem p_withdraw {z : ZZ} {r : RS} (h : TRx z r) {K : ZZ → RS → Prop} (hK : ∀ z' r', TRx z' r' → K z' r') {p1 p2 : Int32} {mw : (Int32 → RS → Prop) → Prop} (hmw : ∀ Post, wp_Mod_withdraw r p1 p2 Post → mw Post) : wp_Ham_withdraw z p1 p2 (fun x z1 => mw (fun y r1 => (x = y → K z1 r1) ∧ (¬ x = y → False))) :=
  act_sim (cw := fun c P => wp_Clb_withdrawStamps c p1 p2 P) (fun c => (sim_withdraw c p1 p2).two) h hK (fun Post q => hmw Post (q))
theorem p_mislay {z : ZZ} {r : RS} (h : TRx z r) {K : ZZ → RS → Prop} (hK : ∀ z' r', TRx z' r' → K z' r') {p1 : Int32} {mw : (Int32 → RS → Prop) → Prop} (hmw : ∀ Post, wp_Mod_mislay r p1 Post → mw Post) : wp_Ham_mislay z p1 (fun x z1 => mw (fun y r1 => (x = y → K z1 r1) ∧ (¬ x = y → False))) :=
  act_sim (cw := fun c P => wp_Clb_mislayCard c p1 P) (fun c => (sim_mislay c p1).two) h hK (fun Post q => hmw Post (q))
theorem p_find {z : ZZ} {r : RS} (h : TRx z r) {K : ZZ → RS → Prop} (hK : ∀ z' r', TRx z' r' → K z' r') {p1 : Int32} {mw : (Int32 → RS → Prop) → Prop} (hmw : ∀ Post, wp_Mod_find r p1 Post → mw Post) : wp_Ham_find z p1 (fun x z1 => mw (fun y r1 => (x = y → K z1 r1) ∧ (¬ x = y → False))) :=
  act_sim (cw := fun c P => wp_Clb_findCard c p1 P) (fun c => (sim_find c p1).two) h hK (fun Post q => hmw Post (q))
theorem p_setHamper {z : ZZ} {r : RS} (h : TRx z r) {K : ZZ → RS → Prop} (hK : ∀ z' r', TRx z' r' → K z' r') {p1 p2 p3 : Int32} {mw : (Int32 → RS → Prop) → Prop} (hmw : ∀ Post, wp_Mod_setHamper r p1 p2 p3 Post → mw Post) : wp_Ham_setHamper z p1 p2 p3 (fun x z1 => mw (fun y r1 => (x = y → K z1 r1) ∧ (¬ x = y → False))) :=
  act_sim (cw := fun c P => wp_Clb_changeKind c p1 p2 p3 P) (fun c => (sim_setHamper c p1 p2 p3).two) h hK (fun Post q => hmw Post (ham_of r p1 p2 p3 Post q))
theorem p_choose {z : ZZ} {r : RS} (h : TRx z r) {K : ZZ → RS → Prop} (hK : ∀ z' r', TRx z' r' → K z' r') {p1 p2 : Int32} {mw : (Int32 → RS → Prop) → Prop} (hmw : ∀ Post, wp_Mod_choose r p1 p2 Post → mw Post) : wp_Ham_choose z p1 p2 (fun x z1 => mw (fun y r1 => (x = y → K z1 r1) ∧ (¬ x = y → False))) :=
  act_sim (cw := fun c P => wp_Clb_chooseKind c p1 p2 P) (fun c => (sim_choose c p1 p2).two) h hK (fun Post q => hmw Post (q))
theorem p_giveUp {z : ZZ} {r : RS} (h : TRx z r) {K : ZZ → RS → Prop} (hK : ∀ z' r', TRx z' r' → K z' r') {p1 : Int32} {mw : (Int32 → RS → Prop) → Prop} (hmw : ∀ Post, wp_Mod_giveUp r p1 Post → mw Post) : wp_Ham_giveUp z p1 (fun x z1 => mw (fun y r1 => (x = y → K z1 r1) ∧ (¬ x = y → False))) :=
  act_sim (cw := fun c P => wp_Clb_giveUpChoice c p1 P) (fun c => (sim_giveUp c p1).two) h hK (fun Post q => hmw Post (q))
theorem p_week {z : ZZ} {r : RS} (h : TRx z r) {K : ZZ → RS → Prop} (hK : ∀ z' r', TRx z' r' → K z' r') {mw : (Int32 → RS → Prop) → Prop} (hmw : ∀ Post, wp_Mod_week r Post → mw Post) : wp_Ham_week z (fun x z1 => mw (fun y r1 => (x = y → K z1 r1) ∧ (¬ x = y → False))) :=
  act_sim (cw := fun c P => wp_Clb_passWeek c P) (fun c => (sim_week c).two) h hK (fun Post q => hmw Post (q))
theorem p_settle {z : ZZ} {r : RS} (h : TRx z r) {K : ZZ → RS → Prop} (hK : ∀ z' r', TRx z' r' → K z' r') {mw : (Int32 → RS → Prop) → Prop} (hmw : ∀ Post, wp_Mod_settle r Post → mw Post) : wp_Ham_settle z (fun x z1 => mw (fun y r1 => (x = y → K z1 r1) ∧ (¬ x = y → False))) :=
  act_sim (cw := fun c P => wp_Clb_settleAll c P) (fun c => (sim_settle c)) h hK (fun Post q => hmw Post (settle_of r Post q))
