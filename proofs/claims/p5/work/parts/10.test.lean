set_option maxRecDepth 100000 in
theorem ac_55_0 : aRun aGX_6 sm_55_0 55 0 20000 aNX aVX aAX aTX aHX = true := by decide +kernel
set_option maxRecDepth 100000 in
theorem ac_56_0 : aRun aGX_6 sm_56_0 56 0 20000 aNX aVX aAX aTX aHX = true := by decide +kernel
set_option maxRecDepth 100000 in
theorem ac_57_0 : aRun aGX_6 sm_57_0 57 0 20000 aNX aVX aAX aTX aHX = true := by decide +kernel
set_option maxRecDepth 100000 in
theorem ac_72_0 : aRun aGX_6 sm_72_0 72 0 20000 aNX aVX aAX aTX aHX = true := by decide +kernel
set_option maxRecDepth 100000 in
theorem ac_97_0 : aRun aGM_4 sm_97_0 97 0 20000 aNM aVM aAM aTM aHM = true := by decide +kernel
