/-! THE LAW'S CASES (by program: wip/whole/gen78.py) -/
set_option maxRecDepth 40000 in
theorem zf0 (pc : Nat) : zt_code 0 pc = zt_fd zl_0 pc := rfl
set_option maxRecDepth 40000
theorem zA_237 : zA 237 1 := ⟨(zf0 237).trans rfl, (zf0 238).trans rfl, (zf0 239).trans rfl, (zf0 240).trans rfl, (zf0 241).trans rfl⟩
theorem zA_242 : zA 242 2 := ⟨(zf0 242).trans rfl, (zf0 243).trans rfl, (zf0 244).trans rfl, (zf0 245).trans rfl, (zf0 246).trans rfl⟩
theorem zA_247 : zA 247 3 := ⟨(zf0 247).trans rfl, (zf0 248).trans rfl, (zf0 249).trans rfl, (zf0 250).trans rfl, (zf0 251).trans rfl⟩
theorem zA_256 : zA 256 1 := ⟨(zf0 256).trans rfl, (zf0 257).trans rfl, (zf0 258).trans rfl, (zf0 259).trans rfl, (zf0 260).trans rfl⟩
theorem zA_261 : zA 261 2 := ⟨(zf0 261).trans rfl, (zf0 262).trans rfl, (zf0 263).trans rfl, (zf0 264).trans rfl, (zf0 265).trans rfl⟩
theorem zA_266 : zA 266 3 := ⟨(zf0 266).trans rfl, (zf0 267).trans rfl, (zf0 268).trans rfl, (zf0 269).trans rfl, (zf0 270).trans rfl⟩
theorem zA_280 : zA 280 1 := ⟨(zf0 280).trans rfl, (zf0 281).trans rfl, (zf0 282).trans rfl, (zf0 283).trans rfl, (zf0 284).trans rfl⟩
theorem zA_285 : zA 285 2 := ⟨(zf0 285).trans rfl, (zf0 286).trans rfl, (zf0 287).trans rfl, (zf0 288).trans rfl, (zf0 289).trans rfl⟩
theorem zA_290 : zA 290 3 := ⟨(zf0 290).trans rfl, (zf0 291).trans rfl, (zf0 292).trans rfl, (zf0 293).trans rfl, (zf0 294).trans rfl⟩
theorem zA_299 : zA 299 4 := ⟨(zf0 299).trans rfl, (zf0 300).trans rfl, (zf0 301).trans rfl, (zf0 302).trans rfl, (zf0 303).trans rfl⟩
theorem zA_314 : zA 314 1 := ⟨(zf0 314).trans rfl, (zf0 315).trans rfl, (zf0 316).trans rfl, (zf0 317).trans rfl, (zf0 318).trans rfl⟩
theorem zA_319 : zA 319 2 := ⟨(zf0 319).trans rfl, (zf0 320).trans rfl, (zf0 321).trans rfl, (zf0 322).trans rfl, (zf0 323).trans rfl⟩
theorem zA_324 : zA 324 3 := ⟨(zf0 324).trans rfl, (zf0 325).trans rfl, (zf0 326).trans rfl, (zf0 327).trans rfl, (zf0 328).trans rfl⟩
theorem zA_333 : zA 333 4 := ⟨(zf0 333).trans rfl, (zf0 334).trans rfl, (zf0 335).trans rfl, (zf0 336).trans rfl, (zf0 337).trans rfl⟩
theorem zA_353 : zA 353 1 := ⟨(zf0 353).trans rfl, (zf0 354).trans rfl, (zf0 355).trans rfl, (zf0 356).trans rfl, (zf0 357).trans rfl⟩
theorem zA_358 : zA 358 2 := ⟨(zf0 358).trans rfl, (zf0 359).trans rfl, (zf0 360).trans rfl, (zf0 361).trans rfl, (zf0 362).trans rfl⟩
theorem zA_363 : zA 363 3 := ⟨(zf0 363).trans rfl, (zf0 364).trans rfl, (zf0 365).trans rfl, (zf0 366).trans rfl, (zf0 367).trans rfl⟩
theorem zA_368 : zA 368 4 := ⟨(zf0 368).trans rfl, (zf0 369).trans rfl, (zf0 370).trans rfl, (zf0 371).trans rfl, (zf0 372).trans rfl⟩
theorem zA_373 : zA 373 5 := ⟨(zf0 373).trans rfl, (zf0 374).trans rfl, (zf0 375).trans rfl, (zf0 376).trans rfl, (zf0 377).trans rfl⟩
theorem zA_382 : zA 382 1 := ⟨(zf0 382).trans rfl, (zf0 383).trans rfl, (zf0 384).trans rfl, (zf0 385).trans rfl, (zf0 386).trans rfl⟩
theorem zA_387 : zA 387 2 := ⟨(zf0 387).trans rfl, (zf0 388).trans rfl, (zf0 389).trans rfl, (zf0 390).trans rfl, (zf0 391).trans rfl⟩
theorem zA_392 : zA 392 3 := ⟨(zf0 392).trans rfl, (zf0 393).trans rfl, (zf0 394).trans rfl, (zf0 395).trans rfl, (zf0 396).trans rfl⟩
theorem zA_397 : zA 397 4 := ⟨(zf0 397).trans rfl, (zf0 398).trans rfl, (zf0 399).trans rfl, (zf0 400).trans rfl, (zf0 401).trans rfl⟩
theorem zA_402 : zA 402 5 := ⟨(zf0 402).trans rfl, (zf0 403).trans rfl, (zf0 404).trans rfl, (zf0 405).trans rfl, (zf0 406).trans rfl⟩
theorem zA_416 : zA 416 1 := ⟨(zf0 416).trans rfl, (zf0 417).trans rfl, (zf0 418).trans rfl, (zf0 419).trans rfl, (zf0 420).trans rfl⟩
theorem zA_421 : zA 421 2 := ⟨(zf0 421).trans rfl, (zf0 422).trans rfl, (zf0 423).trans rfl, (zf0 424).trans rfl, (zf0 425).trans rfl⟩
theorem zA_430 : zA 430 1 := ⟨(zf0 430).trans rfl, (zf0 431).trans rfl, (zf0 432).trans rfl, (zf0 433).trans rfl, (zf0 434).trans rfl⟩
theorem zA_435 : zA 435 2 := ⟨(zf0 435).trans rfl, (zf0 436).trans rfl, (zf0 437).trans rfl, (zf0 438).trans rfl, (zf0 439).trans rfl⟩
theorem zA_450 : zA 450 1 := ⟨(zf0 450).trans rfl, (zf0 451).trans rfl, (zf0 452).trans rfl, (zf0 453).trans rfl, (zf0 454).trans rfl⟩
theorem zA_459 : zA 459 1 := ⟨(zf0 459).trans rfl, (zf0 460).trans rfl, (zf0 461).trans rfl, (zf0 462).trans rfl, (zf0 463).trans rfl⟩
theorem zA_473 : zA 473 1 := ⟨(zf0 473).trans rfl, (zf0 474).trans rfl, (zf0 475).trans rfl, (zf0 476).trans rfl, (zf0 477).trans rfl⟩
theorem zA_478 : zA 478 2 := ⟨(zf0 478).trans rfl, (zf0 479).trans rfl, (zf0 480).trans rfl, (zf0 481).trans rfl, (zf0 482).trans rfl⟩
theorem zA_487 : zA 487 1 := ⟨(zf0 487).trans rfl, (zf0 488).trans rfl, (zf0 489).trans rfl, (zf0 490).trans rfl, (zf0 491).trans rfl⟩
theorem zA_492 : zA 492 2 := ⟨(zf0 492).trans rfl, (zf0 493).trans rfl, (zf0 494).trans rfl, (zf0 495).trans rfl, (zf0 496).trans rfl⟩
theorem zA_506 : zA 506 1 := ⟨(zf0 506).trans rfl, (zf0 507).trans rfl, (zf0 508).trans rfl, (zf0 509).trans rfl, (zf0 510).trans rfl⟩
theorem zA_511 : zA 511 2 := ⟨(zf0 511).trans rfl, (zf0 512).trans rfl, (zf0 513).trans rfl, (zf0 514).trans rfl, (zf0 515).trans rfl⟩
theorem zA_520 : zA 520 1 := ⟨(zf0 520).trans rfl, (zf0 521).trans rfl, (zf0 522).trans rfl, (zf0 523).trans rfl, (zf0 524).trans rfl⟩
theorem zA_525 : zA 525 2 := ⟨(zf0 525).trans rfl, (zf0 526).trans rfl, (zf0 527).trans rfl, (zf0 528).trans rfl, (zf0 529).trans rfl⟩
theorem zA_539 : zA 539 1 := ⟨(zf0 539).trans rfl, (zf0 540).trans rfl, (zf0 541).trans rfl, (zf0 542).trans rfl, (zf0 543).trans rfl⟩
theorem zA_548 : zA 548 1 := ⟨(zf0 548).trans rfl, (zf0 549).trans rfl, (zf0 550).trans rfl, (zf0 551).trans rfl, (zf0 552).trans rfl⟩
theorem zA_562 : zA 562 1 := ⟨(zf0 562).trans rfl, (zf0 563).trans rfl, (zf0 564).trans rfl, (zf0 565).trans rfl, (zf0 566).trans rfl⟩
theorem zA_567 : zA 567 2 := ⟨(zf0 567).trans rfl, (zf0 568).trans rfl, (zf0 569).trans rfl, (zf0 570).trans rfl, (zf0 571).trans rfl⟩
theorem zA_572 : zA 572 3 := ⟨(zf0 572).trans rfl, (zf0 573).trans rfl, (zf0 574).trans rfl, (zf0 575).trans rfl, (zf0 576).trans rfl⟩
theorem zA_581 : zA 581 1 := ⟨(zf0 581).trans rfl, (zf0 582).trans rfl, (zf0 583).trans rfl, (zf0 584).trans rfl, (zf0 585).trans rfl⟩
theorem zA_586 : zA 586 2 := ⟨(zf0 586).trans rfl, (zf0 587).trans rfl, (zf0 588).trans rfl, (zf0 589).trans rfl, (zf0 590).trans rfl⟩
theorem zA_591 : zA 591 3 := ⟨(zf0 591).trans rfl, (zf0 592).trans rfl, (zf0 593).trans rfl, (zf0 594).trans rfl, (zf0 595).trans rfl⟩
theorem zA_605 : zA 605 1 := ⟨(zf0 605).trans rfl, (zf0 606).trans rfl, (zf0 607).trans rfl, (zf0 608).trans rfl, (zf0 609).trans rfl⟩
theorem zA_610 : zA 610 2 := ⟨(zf0 610).trans rfl, (zf0 611).trans rfl, (zf0 612).trans rfl, (zf0 613).trans rfl, (zf0 614).trans rfl⟩
theorem zA_615 : zA 615 3 := ⟨(zf0 615).trans rfl, (zf0 616).trans rfl, (zf0 617).trans rfl, (zf0 618).trans rfl, (zf0 619).trans rfl⟩
theorem zA_624 : zA 624 1 := ⟨(zf0 624).trans rfl, (zf0 625).trans rfl, (zf0 626).trans rfl, (zf0 627).trans rfl, (zf0 628).trans rfl⟩
theorem zA_629 : zA 629 2 := ⟨(zf0 629).trans rfl, (zf0 630).trans rfl, (zf0 631).trans rfl, (zf0 632).trans rfl, (zf0 633).trans rfl⟩
theorem zA_634 : zA 634 3 := ⟨(zf0 634).trans rfl, (zf0 635).trans rfl, (zf0 636).trans rfl, (zf0 637).trans rfl, (zf0 638).trans rfl⟩
theorem zA_648 : zA 648 1 := ⟨(zf0 648).trans rfl, (zf0 649).trans rfl, (zf0 650).trans rfl, (zf0 651).trans rfl, (zf0 652).trans rfl⟩
theorem zA_653 : zA 653 2 := ⟨(zf0 653).trans rfl, (zf0 654).trans rfl, (zf0 655).trans rfl, (zf0 656).trans rfl, (zf0 657).trans rfl⟩
theorem zA_662 : zA 662 1 := ⟨(zf0 662).trans rfl, (zf0 663).trans rfl, (zf0 664).trans rfl, (zf0 665).trans rfl, (zf0 666).trans rfl⟩
theorem zA_667 : zA 667 2 := ⟨(zf0 667).trans rfl, (zf0 668).trans rfl, (zf0 669).trans rfl, (zf0 670).trans rfl, (zf0 671).trans rfl⟩
theorem zA_681 : zA 681 1 := ⟨(zf0 681).trans rfl, (zf0 682).trans rfl, (zf0 683).trans rfl, (zf0 684).trans rfl, (zf0 685).trans rfl⟩
theorem zA_690 : zA 690 1 := ⟨(zf0 690).trans rfl, (zf0 691).trans rfl, (zf0 692).trans rfl, (zf0 693).trans rfl, (zf0 694).trans rfl⟩
theorem zA_704 : zA 704 1 := ⟨(zf0 704).trans rfl, (zf0 705).trans rfl, (zf0 706).trans rfl, (zf0 707).trans rfl, (zf0 708).trans rfl⟩
theorem zA_709 : zA 709 2 := ⟨(zf0 709).trans rfl, (zf0 710).trans rfl, (zf0 711).trans rfl, (zf0 712).trans rfl, (zf0 713).trans rfl⟩
theorem zA_718 : zA 718 1 := ⟨(zf0 718).trans rfl, (zf0 719).trans rfl, (zf0 720).trans rfl, (zf0 721).trans rfl, (zf0 722).trans rfl⟩
theorem zA_723 : zA 723 2 := ⟨(zf0 723).trans rfl, (zf0 724).trans rfl, (zf0 725).trans rfl, (zf0 726).trans rfl, (zf0 727).trans rfl⟩
theorem zA_737 : zA 737 1 := ⟨(zf0 737).trans rfl, (zf0 738).trans rfl, (zf0 739).trans rfl, (zf0 740).trans rfl, (zf0 741).trans rfl⟩
theorem zA_746 : zA 746 1 := ⟨(zf0 746).trans rfl, (zf0 747).trans rfl, (zf0 748).trans rfl, (zf0 749).trans rfl, (zf0 750).trans rfl⟩
theorem zA_760 : zA 760 1 := ⟨(zf0 760).trans rfl, (zf0 761).trans rfl, (zf0 762).trans rfl, (zf0 763).trans rfl, (zf0 764).trans rfl⟩
theorem zA_765 : zA 765 2 := ⟨(zf0 765).trans rfl, (zf0 766).trans rfl, (zf0 767).trans rfl, (zf0 768).trans rfl, (zf0 769).trans rfl⟩
theorem zA_774 : zA 774 1 := ⟨(zf0 774).trans rfl, (zf0 775).trans rfl, (zf0 776).trans rfl, (zf0 777).trans rfl, (zf0 778).trans rfl⟩
theorem zA_779 : zA 779 2 := ⟨(zf0 779).trans rfl, (zf0 780).trans rfl, (zf0 781).trans rfl, (zf0 782).trans rfl, (zf0 783).trans rfl⟩
theorem zA_793 : zA 793 1 := ⟨(zf0 793).trans rfl, (zf0 794).trans rfl, (zf0 795).trans rfl, (zf0 796).trans rfl, (zf0 797).trans rfl⟩
theorem zA_802 : zA 802 1 := ⟨(zf0 802).trans rfl, (zf0 803).trans rfl, (zf0 804).trans rfl, (zf0 805).trans rfl, (zf0 806).trans rfl⟩
theorem zA_842 : zA 842 1 := ⟨(zf0 842).trans rfl, (zf0 843).trans rfl, (zf0 844).trans rfl, (zf0 845).trans rfl, (zf0 846).trans rfl⟩
theorem zA_847 : zA 847 2 := ⟨(zf0 847).trans rfl, (zf0 848).trans rfl, (zf0 849).trans rfl, (zf0 850).trans rfl, (zf0 851).trans rfl⟩
theorem zA_856 : zA 856 1 := ⟨(zf0 856).trans rfl, (zf0 857).trans rfl, (zf0 858).trans rfl, (zf0 859).trans rfl, (zf0 860).trans rfl⟩
theorem zA_861 : zA 861 2 := ⟨(zf0 861).trans rfl, (zf0 862).trans rfl, (zf0 863).trans rfl, (zf0 864).trans rfl, (zf0 865).trans rfl⟩
theorem zA_875 : zA 875 1 := ⟨(zf0 875).trans rfl, (zf0 876).trans rfl, (zf0 877).trans rfl, (zf0 878).trans rfl, (zf0 879).trans rfl⟩
theorem zA_880 : zA 880 2 := ⟨(zf0 880).trans rfl, (zf0 881).trans rfl, (zf0 882).trans rfl, (zf0 883).trans rfl, (zf0 884).trans rfl⟩
theorem zA_889 : zA 889 1 := ⟨(zf0 889).trans rfl, (zf0 890).trans rfl, (zf0 891).trans rfl, (zf0 892).trans rfl, (zf0 893).trans rfl⟩
theorem zA_894 : zA 894 2 := ⟨(zf0 894).trans rfl, (zf0 895).trans rfl, (zf0 896).trans rfl, (zf0 897).trans rfl, (zf0 898).trans rfl⟩
theorem zA_908 : zA 908 1 := ⟨(zf0 908).trans rfl, (zf0 909).trans rfl, (zf0 910).trans rfl, (zf0 911).trans rfl, (zf0 912).trans rfl⟩
theorem zA_913 : zA 913 2 := ⟨(zf0 913).trans rfl, (zf0 914).trans rfl, (zf0 915).trans rfl, (zf0 916).trans rfl, (zf0 917).trans rfl⟩
theorem zA_922 : zA 922 1 := ⟨(zf0 922).trans rfl, (zf0 923).trans rfl, (zf0 924).trans rfl, (zf0 925).trans rfl, (zf0 926).trans rfl⟩
theorem zA_927 : zA 927 2 := ⟨(zf0 927).trans rfl, (zf0 928).trans rfl, (zf0 929).trans rfl, (zf0 930).trans rfl, (zf0 931).trans rfl⟩
theorem zA_941 : zA 941 1 := ⟨(zf0 941).trans rfl, (zf0 942).trans rfl, (zf0 943).trans rfl, (zf0 944).trans rfl, (zf0 945).trans rfl⟩
theorem zA_946 : zA 946 2 := ⟨(zf0 946).trans rfl, (zf0 947).trans rfl, (zf0 948).trans rfl, (zf0 949).trans rfl, (zf0 950).trans rfl⟩
theorem zA_955 : zA 955 1 := ⟨(zf0 955).trans rfl, (zf0 956).trans rfl, (zf0 957).trans rfl, (zf0 958).trans rfl, (zf0 959).trans rfl⟩
theorem zA_960 : zA 960 2 := ⟨(zf0 960).trans rfl, (zf0 961).trans rfl, (zf0 962).trans rfl, (zf0 963).trans rfl, (zf0 964).trans rfl⟩
theorem zA_974 : zA 974 1 := ⟨(zf0 974).trans rfl, (zf0 975).trans rfl, (zf0 976).trans rfl, (zf0 977).trans rfl, (zf0 978).trans rfl⟩
theorem zA_979 : zA 979 2 := ⟨(zf0 979).trans rfl, (zf0 980).trans rfl, (zf0 981).trans rfl, (zf0 982).trans rfl, (zf0 983).trans rfl⟩
theorem zA_984 : zA 984 3 := ⟨(zf0 984).trans rfl, (zf0 985).trans rfl, (zf0 986).trans rfl, (zf0 987).trans rfl, (zf0 988).trans rfl⟩
theorem zA_993 : zA 993 1 := ⟨(zf0 993).trans rfl, (zf0 994).trans rfl, (zf0 995).trans rfl, (zf0 996).trans rfl, (zf0 997).trans rfl⟩
theorem zA_998 : zA 998 2 := ⟨(zf0 998).trans rfl, (zf0 999).trans rfl, (zf0 1000).trans rfl, (zf0 1001).trans rfl, (zf0 1002).trans rfl⟩
theorem zA_1003 : zA 1003 3 := ⟨(zf0 1003).trans rfl, (zf0 1004).trans rfl, (zf0 1005).trans rfl, (zf0 1006).trans rfl, (zf0 1007).trans rfl⟩
theorem zA_1018 : zA 1018 1 := ⟨(zf0 1018).trans rfl, (zf0 1019).trans rfl, (zf0 1020).trans rfl, (zf0 1021).trans rfl, (zf0 1022).trans rfl⟩
theorem zA_1027 : zA 1027 1 := ⟨(zf0 1027).trans rfl, (zf0 1028).trans rfl, (zf0 1029).trans rfl, (zf0 1030).trans rfl, (zf0 1031).trans rfl⟩
theorem zA_1041 : zA 1041 1 := ⟨(zf0 1041).trans rfl, (zf0 1042).trans rfl, (zf0 1043).trans rfl, (zf0 1044).trans rfl, (zf0 1045).trans rfl⟩
theorem zA_1050 : zA 1050 1 := ⟨(zf0 1050).trans rfl, (zf0 1051).trans rfl, (zf0 1052).trans rfl, (zf0 1053).trans rfl, (zf0 1054).trans rfl⟩
theorem zA_1064 : zA 1064 1 := ⟨(zf0 1064).trans rfl, (zf0 1065).trans rfl, (zf0 1066).trans rfl, (zf0 1067).trans rfl, (zf0 1068).trans rfl⟩
theorem zA_1069 : zA 1069 2 := ⟨(zf0 1069).trans rfl, (zf0 1070).trans rfl, (zf0 1071).trans rfl, (zf0 1072).trans rfl, (zf0 1073).trans rfl⟩
theorem zA_1078 : zA 1078 1 := ⟨(zf0 1078).trans rfl, (zf0 1079).trans rfl, (zf0 1080).trans rfl, (zf0 1081).trans rfl, (zf0 1082).trans rfl⟩
theorem zA_1083 : zA 1083 2 := ⟨(zf0 1083).trans rfl, (zf0 1084).trans rfl, (zf0 1085).trans rfl, (zf0 1086).trans rfl, (zf0 1087).trans rfl⟩
theorem zA_1097 : zA 1097 1 := ⟨(zf0 1097).trans rfl, (zf0 1098).trans rfl, (zf0 1099).trans rfl, (zf0 1100).trans rfl, (zf0 1101).trans rfl⟩
theorem zA_1102 : zA 1102 2 := ⟨(zf0 1102).trans rfl, (zf0 1103).trans rfl, (zf0 1104).trans rfl, (zf0 1105).trans rfl, (zf0 1106).trans rfl⟩
theorem zA_1111 : zA 1111 1 := ⟨(zf0 1111).trans rfl, (zf0 1112).trans rfl, (zf0 1113).trans rfl, (zf0 1114).trans rfl, (zf0 1115).trans rfl⟩
theorem zA_1116 : zA 1116 2 := ⟨(zf0 1116).trans rfl, (zf0 1117).trans rfl, (zf0 1118).trans rfl, (zf0 1119).trans rfl, (zf0 1120).trans rfl⟩
theorem zA_1130 : zA 1130 1 := ⟨(zf0 1130).trans rfl, (zf0 1131).trans rfl, (zf0 1132).trans rfl, (zf0 1133).trans rfl, (zf0 1134).trans rfl⟩
theorem zA_1139 : zA 1139 1 := ⟨(zf0 1139).trans rfl, (zf0 1140).trans rfl, (zf0 1141).trans rfl, (zf0 1142).trans rfl, (zf0 1143).trans rfl⟩
theorem zA_1153 : zA 1153 1 := ⟨(zf0 1153).trans rfl, (zf0 1154).trans rfl, (zf0 1155).trans rfl, (zf0 1156).trans rfl, (zf0 1157).trans rfl⟩
theorem zA_1158 : zA 1158 2 := ⟨(zf0 1158).trans rfl, (zf0 1159).trans rfl, (zf0 1160).trans rfl, (zf0 1161).trans rfl, (zf0 1162).trans rfl⟩
theorem zA_1167 : zA 1167 1 := ⟨(zf0 1167).trans rfl, (zf0 1168).trans rfl, (zf0 1169).trans rfl, (zf0 1170).trans rfl, (zf0 1171).trans rfl⟩
theorem zA_1172 : zA 1172 2 := ⟨(zf0 1172).trans rfl, (zf0 1173).trans rfl, (zf0 1174).trans rfl, (zf0 1175).trans rfl, (zf0 1176).trans rfl⟩
theorem zA_1186 : zA 1186 1 := ⟨(zf0 1186).trans rfl, (zf0 1187).trans rfl, (zf0 1188).trans rfl, (zf0 1189).trans rfl, (zf0 1190).trans rfl⟩
theorem zA_1195 : zA 1195 1 := ⟨(zf0 1195).trans rfl, (zf0 1196).trans rfl, (zf0 1197).trans rfl, (zf0 1198).trans rfl, (zf0 1199).trans rfl⟩
theorem zA_1209 : zA 1209 1 := ⟨(zf0 1209).trans rfl, (zf0 1210).trans rfl, (zf0 1211).trans rfl, (zf0 1212).trans rfl, (zf0 1213).trans rfl⟩
theorem zA_1218 : zA 1218 1 := ⟨(zf0 1218).trans rfl, (zf0 1219).trans rfl, (zf0 1220).trans rfl, (zf0 1221).trans rfl, (zf0 1222).trans rfl⟩
theorem zA_1245 : zA 1245 1 := ⟨(zf0 1245).trans rfl, (zf0 1246).trans rfl, (zf0 1247).trans rfl, (zf0 1248).trans rfl, (zf0 1249).trans rfl⟩
theorem zA_1250 : zA 1250 2 := ⟨(zf0 1250).trans rfl, (zf0 1251).trans rfl, (zf0 1252).trans rfl, (zf0 1253).trans rfl, (zf0 1254).trans rfl⟩
theorem zA_1259 : zA 1259 1 := ⟨(zf0 1259).trans rfl, (zf0 1260).trans rfl, (zf0 1261).trans rfl, (zf0 1262).trans rfl, (zf0 1263).trans rfl⟩
theorem zA_1264 : zA 1264 2 := ⟨(zf0 1264).trans rfl, (zf0 1265).trans rfl, (zf0 1266).trans rfl, (zf0 1267).trans rfl, (zf0 1268).trans rfl⟩
theorem zA_1278 : zA 1278 1 := ⟨(zf0 1278).trans rfl, (zf0 1279).trans rfl, (zf0 1280).trans rfl, (zf0 1281).trans rfl, (zf0 1282).trans rfl⟩
theorem zA_1283 : zA 1283 2 := ⟨(zf0 1283).trans rfl, (zf0 1284).trans rfl, (zf0 1285).trans rfl, (zf0 1286).trans rfl, (zf0 1287).trans rfl⟩
theorem zA_1292 : zA 1292 1 := ⟨(zf0 1292).trans rfl, (zf0 1293).trans rfl, (zf0 1294).trans rfl, (zf0 1295).trans rfl, (zf0 1296).trans rfl⟩
theorem zA_1297 : zA 1297 2 := ⟨(zf0 1297).trans rfl, (zf0 1298).trans rfl, (zf0 1299).trans rfl, (zf0 1300).trans rfl, (zf0 1301).trans rfl⟩
theorem zA_1311 : zA 1311 1 := ⟨(zf0 1311).trans rfl, (zf0 1312).trans rfl, (zf0 1313).trans rfl, (zf0 1314).trans rfl, (zf0 1315).trans rfl⟩
theorem zA_1316 : zA 1316 2 := ⟨(zf0 1316).trans rfl, (zf0 1317).trans rfl, (zf0 1318).trans rfl, (zf0 1319).trans rfl, (zf0 1320).trans rfl⟩
theorem zA_1325 : zA 1325 1 := ⟨(zf0 1325).trans rfl, (zf0 1326).trans rfl, (zf0 1327).trans rfl, (zf0 1328).trans rfl, (zf0 1329).trans rfl⟩
theorem zA_1330 : zA 1330 2 := ⟨(zf0 1330).trans rfl, (zf0 1331).trans rfl, (zf0 1332).trans rfl, (zf0 1333).trans rfl, (zf0 1334).trans rfl⟩
theorem zA_1344 : zA 1344 1 := ⟨(zf0 1344).trans rfl, (zf0 1345).trans rfl, (zf0 1346).trans rfl, (zf0 1347).trans rfl, (zf0 1348).trans rfl⟩
theorem zA_1349 : zA 1349 2 := ⟨(zf0 1349).trans rfl, (zf0 1350).trans rfl, (zf0 1351).trans rfl, (zf0 1352).trans rfl, (zf0 1353).trans rfl⟩
theorem zA_1354 : zA 1354 3 := ⟨(zf0 1354).trans rfl, (zf0 1355).trans rfl, (zf0 1356).trans rfl, (zf0 1357).trans rfl, (zf0 1358).trans rfl⟩
theorem zA_1363 : zA 1363 1 := ⟨(zf0 1363).trans rfl, (zf0 1364).trans rfl, (zf0 1365).trans rfl, (zf0 1366).trans rfl, (zf0 1367).trans rfl⟩
theorem zA_1368 : zA 1368 2 := ⟨(zf0 1368).trans rfl, (zf0 1369).trans rfl, (zf0 1370).trans rfl, (zf0 1371).trans rfl, (zf0 1372).trans rfl⟩
theorem zA_1373 : zA 1373 3 := ⟨(zf0 1373).trans rfl, (zf0 1374).trans rfl, (zf0 1375).trans rfl, (zf0 1376).trans rfl, (zf0 1377).trans rfl⟩
theorem zA_1387 : zA 1387 1 := ⟨(zf0 1387).trans rfl, (zf0 1388).trans rfl, (zf0 1389).trans rfl, (zf0 1390).trans rfl, (zf0 1391).trans rfl⟩
theorem zA_1396 : zA 1396 1 := ⟨(zf0 1396).trans rfl, (zf0 1397).trans rfl, (zf0 1398).trans rfl, (zf0 1399).trans rfl, (zf0 1400).trans rfl⟩
theorem zA_1410 : zA 1410 1 := ⟨(zf0 1410).trans rfl, (zf0 1411).trans rfl, (zf0 1412).trans rfl, (zf0 1413).trans rfl, (zf0 1414).trans rfl⟩
theorem zA_1415 : zA 1415 2 := ⟨(zf0 1415).trans rfl, (zf0 1416).trans rfl, (zf0 1417).trans rfl, (zf0 1418).trans rfl, (zf0 1419).trans rfl⟩
theorem zA_1424 : zA 1424 1 := ⟨(zf0 1424).trans rfl, (zf0 1425).trans rfl, (zf0 1426).trans rfl, (zf0 1427).trans rfl, (zf0 1428).trans rfl⟩
theorem zA_1429 : zA 1429 2 := ⟨(zf0 1429).trans rfl, (zf0 1430).trans rfl, (zf0 1431).trans rfl, (zf0 1432).trans rfl, (zf0 1433).trans rfl⟩
theorem zA_1443 : zA 1443 1 := ⟨(zf0 1443).trans rfl, (zf0 1444).trans rfl, (zf0 1445).trans rfl, (zf0 1446).trans rfl, (zf0 1447).trans rfl⟩
theorem zA_1452 : zA 1452 1 := ⟨(zf0 1452).trans rfl, (zf0 1453).trans rfl, (zf0 1454).trans rfl, (zf0 1455).trans rfl, (zf0 1456).trans rfl⟩
theorem zA_1466 : zA 1466 1 := ⟨(zf0 1466).trans rfl, (zf0 1467).trans rfl, (zf0 1468).trans rfl, (zf0 1469).trans rfl, (zf0 1470).trans rfl⟩
theorem zA_1475 : zA 1475 1 := ⟨(zf0 1475).trans rfl, (zf0 1476).trans rfl, (zf0 1477).trans rfl, (zf0 1478).trans rfl, (zf0 1479).trans rfl⟩
theorem zA_1489 : zA 1489 1 := ⟨(zf0 1489).trans rfl, (zf0 1490).trans rfl, (zf0 1491).trans rfl, (zf0 1492).trans rfl, (zf0 1493).trans rfl⟩
theorem zA_1494 : zA 1494 2 := ⟨(zf0 1494).trans rfl, (zf0 1495).trans rfl, (zf0 1496).trans rfl, (zf0 1497).trans rfl, (zf0 1498).trans rfl⟩
theorem zA_1503 : zA 1503 1 := ⟨(zf0 1503).trans rfl, (zf0 1504).trans rfl, (zf0 1505).trans rfl, (zf0 1506).trans rfl, (zf0 1507).trans rfl⟩
theorem zA_1508 : zA 1508 2 := ⟨(zf0 1508).trans rfl, (zf0 1509).trans rfl, (zf0 1510).trans rfl, (zf0 1511).trans rfl, (zf0 1512).trans rfl⟩
theorem zA_1535 : zA 1535 1 := ⟨(zf0 1535).trans rfl, (zf0 1536).trans rfl, (zf0 1537).trans rfl, (zf0 1538).trans rfl, (zf0 1539).trans rfl⟩
theorem zA_1544 : zA 1544 1 := ⟨(zf0 1544).trans rfl, (zf0 1545).trans rfl, (zf0 1546).trans rfl, (zf0 1547).trans rfl, (zf0 1548).trans rfl⟩
theorem zA_1558 : zA 1558 1 := ⟨(zf0 1558).trans rfl, (zf0 1559).trans rfl, (zf0 1560).trans rfl, (zf0 1561).trans rfl, (zf0 1562).trans rfl⟩
theorem zA_1567 : zA 1567 1 := ⟨(zf0 1567).trans rfl, (zf0 1568).trans rfl, (zf0 1569).trans rfl, (zf0 1570).trans rfl, (zf0 1571).trans rfl⟩
theorem zA_1607 : zA 1607 1 := ⟨(zf0 1607).trans rfl, (zf0 1608).trans rfl, (zf0 1609).trans rfl, (zf0 1610).trans rfl, (zf0 1611).trans rfl⟩
theorem zA_1616 : zA 1616 1 := ⟨(zf0 1616).trans rfl, (zf0 1617).trans rfl, (zf0 1618).trans rfl, (zf0 1619).trans rfl, (zf0 1620).trans rfl⟩
theorem lg_self (x : Int64) : lg_cmp x x = (0 : Int32) := by
  have h := @lg_eq x x (lg_cmp x x = (0 : Int32)) True
  by_cases c : lg_cmp x x = (0 : Int32)
  · exact c
  · rw [if_neg c, if_pos rfl] at h
    exact h.mp trivial
section
variable {X : zX} {d p j mx mm dx dm na : Nat} {ax am st ls : List Value} {S : zx_S} {C : zx_C} {D : zDD} {Q : Option Value → zx_H → Prop}
/-- the class's call, a long answer -/
theorem ze_cy (hB : zBY X S 0 42 D dx mx ax dm mm am) (hI : zIn S C D) (hc : zt_code 0 p = some (.invokevirtual j, mx, na, 4)) (h1 : Nat.ble na st.length = true) (h2 : (st.take na).reverse = .ref 0 :: ax) (h3 : st.drop na = []) (ha : zx_aok (zt_mt mx).2.2.1 (.ref 0 :: ax) = true) (hd : dx ≤ d)
    (K : ∀ R D' C1, zWI D' → zIX C1 0 D' → zIM S C1 42 D → zMJ X S 42 D dm mm am (fun r => r = some (.long R)) D' → zE X (d + 1) 0 (p + 3) ls [.long R] (S, C1) Q) : zE X (d + 1) 0 p ls st (S, C) Q := by
  obtain ⟨hX, hM, hz, hW, hIX, hIM⟩ := hI
  obtain ⟨R, D', b1, b2, b3⟩ := hB
  refine zE_call hc (zs_V h1 h2 h3 rfl (by decide) (zj_4 hX).1 (zq_4 hX)) ha (zE_deep hd (zE_mono (b2 C hIX) (fun r H' w => ?_)))
  obtain ⟨w1, x, w2, w3, w4, w5⟩ := w
  obtain ⟨S1, C1⟩ := H'
  dsimp only at w1 w4 w5
  subst w1
  subst w2
  subst w3
  exact K x D' C1 b1 w4 (zIM_up hW hIM (fun b k hb => w5.1 b k (Or.inr (by omega))) (fun b k hb => w5.2 b k (Or.inr (by omega)))) b3
end
set_option maxRecDepth 40000
section
variable {L : Nat} {xs : Nat → Int32} {i d : Nat} {S : zx_S} {C : zx_C} {D : zDD} {Q : Option Value → zx_H → Prop}
theorem law_0 (hI : zIn S C D) (hi : i + 6 ≤ L) (hL : L ≤ 3072) (hd : 64 ≤ d) (K : ∀ S2 C2 D2, zIn S2 C2 D2 → zE (some (L, xs)) (d + 1) 0 1629 (zLl i) [] (S2, C2) Q) : zE (some (L, xs)) (d + 1) 0 236 (zLl i) [] (S, C) Q := by
  obtain ⟨hX, hM, hz, hW, hIX, hIM⟩ := id hI
  refine zE_next (pc' := 237) (ls' := zLl i) (st' := [.ref 0]) (H' := (S, C)) ((zf0 236).trans rfl) rfl ?_
  refine ze_arg (kn := 1) zA_237 hi (by decide) hL ?_
  refine ze_arg (kn := 2) zA_242 hi (by decide) hL ?_
  refine ze_arg (kn := 3) zA_247 hi (by decide) hL ?_
  refine ze_cx (d := d) (cx_row hX hM hW (xs (i + 1)) (xs (i + 2)) (xs (i + 3))) hI ((zf0 252).trans rfl) rfl rfl rfl (by rw [ml_7]; rfl) (by omega) (fun R D' C1 k1 k2 k3 k4 => ?_)
  refine zE_next (pc' := 256) (ls' := zLl i) (st' := [.ref 42, .int R]) (H' := (S, C1)) ((zf0 255).trans rfl) rfl ?_
  refine ze_arg (kn := 1) zA_256 hi (by decide) hL ?_
  refine ze_arg (kn := 2) zA_261 hi (by decide) hL ?_
  refine ze_arg (kn := 3) zA_266 hi (by decide) hL ?_
  refine ze_cm (d := d) k4 ⟨hX, hM, hz⟩ k1 k2 k3 ((zf0 271).trans rfl) rfl rfl rfl (Nat.le_succ 1) (by rw [ml_158]; rfl) (by omega) (fun S2 C2 k5 => ?_)
  refine zE_next (pc' := 1629) (ls' := zLl i) (st' := []) (H' := (S2, C2)) ((zf0 274).trans rfl) (by show zx_n (if R = R then 1629 else 274 + 3) (zLl i) [] (S2, C2) = _; rw [if_pos rfl]; rfl) ?_
  exact K S2 C2 _ k5
theorem law_1 (hI : zIn S C D) (hi : i + 6 ≤ L) (hL : L ≤ 3072) (hd : 64 ≤ d) (K : ∀ S2 C2 D2, zIn S2 C2 D2 → zE (some (L, xs)) (d + 1) 0 1629 (zLl i) [] (S2, C2) Q) : zE (some (L, xs)) (d + 1) 0 279 (zLl i) [] (S, C) Q := by
  obtain ⟨hX, hM, hz, hW, hIX, hIM⟩ := id hI
  refine zE_next (pc' := 280) (ls' := zLl i) (st' := [.ref 0]) (H' := (S, C)) ((zf0 279).trans rfl) rfl ?_
  refine ze_arg (kn := 1) zA_280 hi (by decide) hL ?_
  refine ze_arg (kn := 2) zA_285 hi (by decide) hL ?_
  refine ze_arg (kn := 3) zA_290 hi (by decide) hL ?_
  refine zE_next (pc' := 296) (ls' := zLl i) (st' := [.long (xs (i + 3)).toInt64, .int (xs (i + 2)), .int (xs (i + 1)), .ref 0]) (H' := (S, C)) ((zf0 295).trans rfl) rfl ?_
  refine zE_next (pc' := 298) (ls' := zLl i) (st' := [.int (Int8.ofInt 32).toInt32, .long (xs (i + 3)).toInt64, .int (xs (i + 2)), .int (xs (i + 1)), .ref 0]) (H' := (S, C)) ((zf0 296).trans rfl) rfl ?_
  refine zE_next (pc' := 299) (ls' := zLl i) (st' := [.long ((xs (i + 3)).toInt64 <<< ((Int8.ofInt 32).toInt32.toInt64 &&& 63)), .int (xs (i + 2)), .int (xs (i + 1)), .ref 0]) (H' := (S, C)) ((zf0 298).trans rfl) rfl ?_
  refine ze_arg (kn := 4) zA_299 hi (by decide) hL ?_
  refine zE_next (pc' := 305) (ls' := zLl i) (st' := [.long (xs (i + 4)).toInt64, .long ((xs (i + 3)).toInt64 <<< ((Int8.ofInt 32).toInt32.toInt64 &&& 63)), .int (xs (i + 2)), .int (xs (i + 1)), .ref 0]) (H' := (S, C)) ((zf0 304).trans rfl) rfl ?_
  refine zE_next (pc' := 308) (ls' := zLl i) (st' := [.long (Int64.ofInt 4294967295), .long (xs (i + 4)).toInt64, .long ((xs (i + 3)).toInt64 <<< ((Int8.ofInt 32).toInt32.toInt64 &&& 63)), .int (xs (i + 2)), .int (xs (i + 1)), .ref 0]) (H' := (S, C)) ((zf0 305).trans rfl) rfl ?_
  refine zE_next (pc' := 309) (ls' := zLl i) (st' := [.long ((xs (i + 4)).toInt64 &&& (Int64.ofInt 4294967295)), .long ((xs (i + 3)).toInt64 <<< ((Int8.ofInt 32).toInt32.toInt64 &&& 63)), .int (xs (i + 2)), .int (xs (i + 1)), .ref 0]) (H' := (S, C)) ((zf0 308).trans rfl) rfl ?_
  refine zE_next (pc' := 310) (ls' := zLl i) (st' := [.long (((xs (i + 3)).toInt64 <<< ((Int8.ofInt 32).toInt32.toInt64 &&& 63)) ||| ((xs (i + 4)).toInt64 &&& (Int64.ofInt 4294967295))), .int (xs (i + 2)), .int (xs (i + 1)), .ref 0]) (H' := (S, C)) ((zf0 309).trans rfl) rfl ?_
  refine ze_cx (d := d) (cx_set hX hM hW (xs (i + 1)) (xs (i + 2)) (((xs (i + 3)).toInt64 <<< ((Int8.ofInt 32).toInt32.toInt64 &&& 63)) ||| ((xs (i + 4)).toInt64 &&& (Int64.ofInt 4294967295)))) hI ((zf0 310).trans rfl) rfl rfl rfl (by rw [ml_18]; rfl) (by omega) (fun R D' C1 k1 k2 k3 k4 => ?_)
  refine zE_next (pc' := 314) (ls' := zLl i) (st' := [.ref 42, .int R]) (H' := (S, C1)) ((zf0 313).trans rfl) rfl ?_
  refine ze_arg (kn := 1) zA_314 hi (by decide) hL ?_
  refine ze_arg (kn := 2) zA_319 hi (by decide) hL ?_
  refine ze_arg (kn := 3) zA_324 hi (by decide) hL ?_
  refine zE_next (pc' := 330) (ls' := zLl i) (st' := [.long (xs (i + 3)).toInt64, .int (xs (i + 2)), .int (xs (i + 1)), .ref 42, .int R]) (H' := (S, C1)) ((zf0 329).trans rfl) rfl ?_
  refine zE_next (pc' := 332) (ls' := zLl i) (st' := [.int (Int8.ofInt 32).toInt32, .long (xs (i + 3)).toInt64, .int (xs (i + 2)), .int (xs (i + 1)), .ref 42, .int R]) (H' := (S, C1)) ((zf0 330).trans rfl) rfl ?_
  refine zE_next (pc' := 333) (ls' := zLl i) (st' := [.long ((xs (i + 3)).toInt64 <<< ((Int8.ofInt 32).toInt32.toInt64 &&& 63)), .int (xs (i + 2)), .int (xs (i + 1)), .ref 42, .int R]) (H' := (S, C1)) ((zf0 332).trans rfl) rfl ?_
  refine ze_arg (kn := 4) zA_333 hi (by decide) hL ?_
  refine zE_next (pc' := 339) (ls' := zLl i) (st' := [.long (xs (i + 4)).toInt64, .long ((xs (i + 3)).toInt64 <<< ((Int8.ofInt 32).toInt32.toInt64 &&& 63)), .int (xs (i + 2)), .int (xs (i + 1)), .ref 42, .int R]) (H' := (S, C1)) ((zf0 338).trans rfl) rfl ?_
  refine zE_next (pc' := 342) (ls' := zLl i) (st' := [.long (Int64.ofInt 4294967295), .long (xs (i + 4)).toInt64, .long ((xs (i + 3)).toInt64 <<< ((Int8.ofInt 32).toInt32.toInt64 &&& 63)), .int (xs (i + 2)), .int (xs (i + 1)), .ref 42, .int R]) (H' := (S, C1)) ((zf0 339).trans rfl) rfl ?_
  refine zE_next (pc' := 343) (ls' := zLl i) (st' := [.long ((xs (i + 4)).toInt64 &&& (Int64.ofInt 4294967295)), .long ((xs (i + 3)).toInt64 <<< ((Int8.ofInt 32).toInt32.toInt64 &&& 63)), .int (xs (i + 2)), .int (xs (i + 1)), .ref 42, .int R]) (H' := (S, C1)) ((zf0 342).trans rfl) rfl ?_
  refine zE_next (pc' := 344) (ls' := zLl i) (st' := [.long (((xs (i + 3)).toInt64 <<< ((Int8.ofInt 32).toInt32.toInt64 &&& 63)) ||| ((xs (i + 4)).toInt64 &&& (Int64.ofInt 4294967295))), .int (xs (i + 2)), .int (xs (i + 1)), .ref 42, .int R]) (H' := (S, C1)) ((zf0 343).trans rfl) rfl ?_
  refine ze_cm (d := d) k4 ⟨hX, hM, hz⟩ k1 k2 k3 ((zf0 344).trans rfl) rfl rfl rfl (Nat.le_succ 1) (by rw [ml_161]; rfl) (by omega) (fun S2 C2 k5 => ?_)
  refine zE_next (pc' := 1629) (ls' := zLl i) (st' := []) (H' := (S2, C2)) ((zf0 347).trans rfl) (by show zx_n (if R = R then 1629 else 347 + 3) (zLl i) [] (S2, C2) = _; rw [if_pos rfl]; rfl) ?_
  exact K S2 C2 _ k5
theorem law_2 (hI : zIn S C D) (hi : i + 6 ≤ L) (hL : L ≤ 3072) (hd : 64 ≤ d) (K : ∀ S2 C2 D2, zIn S2 C2 D2 → zE (some (L, xs)) (d + 1) 0 1629 (zLl i) [] (S2, C2) Q) : zE (some (L, xs)) (d + 1) 0 352 (zLl i) [] (S, C) Q := by
  obtain ⟨hX, hM, hz, hW, hIX, hIM⟩ := id hI
  refine zE_next (pc' := 353) (ls' := zLl i) (st' := [.ref 0]) (H' := (S, C)) ((zf0 352).trans rfl) rfl ?_
  refine ze_arg (kn := 1) zA_353 hi (by decide) hL ?_
  refine ze_arg (kn := 2) zA_358 hi (by decide) hL ?_
  refine ze_arg (kn := 3) zA_363 hi (by decide) hL ?_
  refine ze_arg (kn := 4) zA_368 hi (by decide) hL ?_
  refine ze_arg (kn := 5) zA_373 hi (by decide) hL ?_
  refine ze_cx (d := d) (cx_copy hX hM hW (xs (i + 1)) (xs (i + 2)) (xs (i + 3)) (xs (i + 4)) (xs (i + 5))) hI ((zf0 378).trans rfl) rfl rfl rfl (by rw [ml_20]; rfl) (by omega) (fun R D' C1 k1 k2 k3 k4 => ?_)
  refine zE_next (pc' := 382) (ls' := zLl i) (st' := [.ref 42, .int R]) (H' := (S, C1)) ((zf0 381).trans rfl) rfl ?_
  refine ze_arg (kn := 1) zA_382 hi (by decide) hL ?_
  refine ze_arg (kn := 2) zA_387 hi (by decide) hL ?_
  refine ze_arg (kn := 3) zA_392 hi (by decide) hL ?_
  refine ze_arg (kn := 4) zA_397 hi (by decide) hL ?_
  refine ze_arg (kn := 5) zA_402 hi (by decide) hL ?_
  refine ze_cm (d := d) k4 ⟨hX, hM, hz⟩ k1 k2 k3 ((zf0 407).trans rfl) rfl rfl rfl (Nat.le_succ 1) (by rw [ml_164]; rfl) (by omega) (fun S2 C2 k5 => ?_)
  refine zE_next (pc' := 1629) (ls' := zLl i) (st' := []) (H' := (S2, C2)) ((zf0 410).trans rfl) (by show zx_n (if R = R then 1629 else 410 + 3) (zLl i) [] (S2, C2) = _; rw [if_pos rfl]; rfl) ?_
  exact K S2 C2 _ k5
theorem law_3 (hI : zIn S C D) (hi : i + 6 ≤ L) (hL : L ≤ 3072) (hd : 64 ≤ d) (K : ∀ S2 C2 D2, zIn S2 C2 D2 → zE (some (L, xs)) (d + 1) 0 1629 (zLl i) [] (S2, C2) Q) : zE (some (L, xs)) (d + 1) 0 415 (zLl i) [] (S, C) Q := by
  obtain ⟨hX, hM, hz, hW, hIX, hIM⟩ := id hI
  refine zE_next (pc' := 416) (ls' := zLl i) (st' := [.ref 0]) (H' := (S, C)) ((zf0 415).trans rfl) rfl ?_
  refine ze_arg (kn := 1) zA_416 hi (by decide) hL ?_
  refine ze_arg (kn := 2) zA_421 hi (by decide) hL ?_
  refine ze_cy (d := d) (cx_element hX hM hW (xs (i + 1)) (xs (i + 2))) hI ((zf0 426).trans rfl) rfl rfl rfl (by rw [ml_24]; rfl) (by omega) (fun R D' C1 k1 k2 k3 k4 => ?_)
  refine zE_next (pc' := 430) (ls' := zLl i) (st' := [.ref 42, .long R]) (H' := (S, C1)) ((zf0 429).trans rfl) rfl ?_
  refine ze_arg (kn := 1) zA_430 hi (by decide) hL ?_
  refine ze_arg (kn := 2) zA_435 hi (by decide) hL ?_
  refine ze_cm (d := d) k4 ⟨hX, hM, hz⟩ k1 k2 k3 ((zf0 440).trans rfl) rfl rfl rfl (Nat.le_refl 2) (by rw [ml_165]; rfl) (by omega) (fun S2 C2 k5 => ?_)
  refine zE_next (pc' := 444) (ls' := zLl i) (st' := [.int (lg_cmp R R)]) (H' := (S2, C2)) ((zf0 443).trans rfl) rfl ?_
  refine zE_next (pc' := 1629) (ls' := zLl i) (st' := []) (H' := (S2, C2)) ((zf0 444).trans rfl) (by show zx_n (if lg_cmp R R = (0 : Int32) then 1629 else 444 + 3) (zLl i) [] (S2, C2) = _; rw [lg_self]; rfl) ?_
  exact K S2 C2 _ k5
theorem law_4 (hI : zIn S C D) (hi : i + 6 ≤ L) (hL : L ≤ 3072) (hd : 64 ≤ d) (K : ∀ S2 C2 D2, zIn S2 C2 D2 → zE (some (L, xs)) (d + 1) 0 1629 (zLl i) [] (S2, C2) Q) : zE (some (L, xs)) (d + 1) 0 449 (zLl i) [] (S, C) Q := by
  obtain ⟨hX, hM, hz, hW, hIX, hIM⟩ := id hI
  refine zE_next (pc' := 450) (ls' := zLl i) (st' := [.ref 0]) (H' := (S, C)) ((zf0 449).trans rfl) rfl ?_
  refine ze_arg (kn := 1) zA_450 hi (by decide) hL ?_
  refine ze_cx (d := d) (cx_holds hX hM hW (xs (i + 1))) hI ((zf0 455).trans rfl) rfl rfl rfl (by rw [ml_25]; rfl) (by omega) (fun R D' C1 k1 k2 k3 k4 => ?_)
  refine zE_next (pc' := 459) (ls' := zLl i) (st' := [.ref 42, .int R]) (H' := (S, C1)) ((zf0 458).trans rfl) rfl ?_
  refine ze_arg (kn := 1) zA_459 hi (by decide) hL ?_
  refine ze_cm (d := d) k4 ⟨hX, hM, hz⟩ k1 k2 k3 ((zf0 464).trans rfl) rfl rfl rfl (Nat.le_succ 1) (by rw [ml_166]; rfl) (by omega) (fun S2 C2 k5 => ?_)
  refine zE_next (pc' := 1629) (ls' := zLl i) (st' := []) (H' := (S2, C2)) ((zf0 467).trans rfl) (by show zx_n (if R = R then 1629 else 467 + 3) (zLl i) [] (S2, C2) = _; rw [if_pos rfl]; rfl) ?_
  exact K S2 C2 _ k5
theorem law_5 (hI : zIn S C D) (hi : i + 6 ≤ L) (hL : L ≤ 3072) (hd : 64 ≤ d) (K : ∀ S2 C2 D2, zIn S2 C2 D2 → zE (some (L, xs)) (d + 1) 0 1629 (zLl i) [] (S2, C2) Q) : zE (some (L, xs)) (d + 1) 0 472 (zLl i) [] (S, C) Q := by
  obtain ⟨hX, hM, hz, hW, hIX, hIM⟩ := id hI
  refine zE_next (pc' := 473) (ls' := zLl i) (st' := [.ref 0]) (H' := (S, C)) ((zf0 472).trans rfl) rfl ?_
  refine ze_arg (kn := 1) zA_473 hi (by decide) hL ?_
  refine ze_arg (kn := 2) zA_478 hi (by decide) hL ?_
  refine ze_cx (d := d) (cx_show hX hM hW (xs (i + 1)) (xs (i + 2))) hI ((zf0 483).trans rfl) rfl rfl rfl (by rw [ml_26]; rfl) (by omega) (fun R D' C1 k1 k2 k3 k4 => ?_)
  refine zE_next (pc' := 487) (ls' := zLl i) (st' := [.ref 42, .int R]) (H' := (S, C1)) ((zf0 486).trans rfl) rfl ?_
  refine ze_arg (kn := 1) zA_487 hi (by decide) hL ?_
  refine ze_arg (kn := 2) zA_492 hi (by decide) hL ?_
  refine ze_cm (d := d) k4 ⟨hX, hM, hz⟩ k1 k2 k3 ((zf0 497).trans rfl) rfl rfl rfl (Nat.le_succ 1) (by rw [ml_167]; rfl) (by omega) (fun S2 C2 k5 => ?_)
  refine zE_next (pc' := 1629) (ls' := zLl i) (st' := []) (H' := (S2, C2)) ((zf0 500).trans rfl) (by show zx_n (if R = R then 1629 else 500 + 3) (zLl i) [] (S2, C2) = _; rw [if_pos rfl]; rfl) ?_
  exact K S2 C2 _ k5
theorem law_6 (hI : zIn S C D) (hi : i + 6 ≤ L) (hL : L ≤ 3072) (hd : 64 ≤ d) (K : ∀ S2 C2 D2, zIn S2 C2 D2 → zE (some (L, xs)) (d + 1) 0 1629 (zLl i) [] (S2, C2) Q) : zE (some (L, xs)) (d + 1) 0 505 (zLl i) [] (S, C) Q := by
  obtain ⟨hX, hM, hz, hW, hIX, hIM⟩ := id hI
  refine zE_next (pc' := 506) (ls' := zLl i) (st' := [.ref 0]) (H' := (S, C)) ((zf0 505).trans rfl) rfl ?_
  refine ze_arg (kn := 1) zA_506 hi (by decide) hL ?_
  refine ze_arg (kn := 2) zA_511 hi (by decide) hL ?_
  refine ze_cx (d := d) (cx_says hX hM hW (xs (i + 1)) (xs (i + 2))) hI ((zf0 516).trans rfl) rfl rfl rfl (by rw [ml_31]; rfl) (by omega) (fun R D' C1 k1 k2 k3 k4 => ?_)
  refine zE_next (pc' := 520) (ls' := zLl i) (st' := [.ref 42, .int R]) (H' := (S, C1)) ((zf0 519).trans rfl) rfl ?_
  refine ze_arg (kn := 1) zA_520 hi (by decide) hL ?_
  refine ze_arg (kn := 2) zA_525 hi (by decide) hL ?_
  refine ze_cm (d := d) k4 ⟨hX, hM, hz⟩ k1 k2 k3 ((zf0 530).trans rfl) rfl rfl rfl (Nat.le_succ 1) (by rw [ml_169]; rfl) (by omega) (fun S2 C2 k5 => ?_)
  refine zE_next (pc' := 1629) (ls' := zLl i) (st' := []) (H' := (S2, C2)) ((zf0 533).trans rfl) (by show zx_n (if R = R then 1629 else 533 + 3) (zLl i) [] (S2, C2) = _; rw [if_pos rfl]; rfl) ?_
  exact K S2 C2 _ k5
theorem law_7 (hI : zIn S C D) (hi : i + 6 ≤ L) (hL : L ≤ 3072) (hd : 64 ≤ d) (K : ∀ S2 C2 D2, zIn S2 C2 D2 → zE (some (L, xs)) (d + 1) 0 1629 (zLl i) [] (S2, C2) Q) : zE (some (L, xs)) (d + 1) 0 538 (zLl i) [] (S, C) Q := by
  obtain ⟨hX, hM, hz, hW, hIX, hIM⟩ := id hI
  refine zE_next (pc' := 539) (ls' := zLl i) (st' := [.ref 0]) (H' := (S, C)) ((zf0 538).trans rfl) rfl ?_
  refine ze_arg (kn := 1) zA_539 hi (by decide) hL ?_
  refine ze_cx (d := d) (cx_sides hX hM hW (xs (i + 1))) hI ((zf0 544).trans rfl) rfl rfl rfl (by rw [ml_67]; rfl) (by omega) (fun R D' C1 k1 k2 k3 k4 => ?_)
  refine zE_next (pc' := 548) (ls' := zLl i) (st' := [.ref 42, .int R]) (H' := (S, C1)) ((zf0 547).trans rfl) rfl ?_
  refine ze_arg (kn := 1) zA_548 hi (by decide) hL ?_
  refine ze_cm (d := d) k4 ⟨hX, hM, hz⟩ k1 k2 k3 ((zf0 553).trans rfl) rfl rfl rfl (Nat.le_succ 1) (by rw [ml_185]; rfl) (by omega) (fun S2 C2 k5 => ?_)
  refine zE_next (pc' := 1629) (ls' := zLl i) (st' := []) (H' := (S2, C2)) ((zf0 556).trans rfl) (by show zx_n (if R = R then 1629 else 556 + 3) (zLl i) [] (S2, C2) = _; rw [if_pos rfl]; rfl) ?_
  exact K S2 C2 _ k5
theorem law_8 (hI : zIn S C D) (hi : i + 6 ≤ L) (hL : L ≤ 3072) (hd : 64 ≤ d) (K : ∀ S2 C2 D2, zIn S2 C2 D2 → zE (some (L, xs)) (d + 1) 0 1629 (zLl i) [] (S2, C2) Q) : zE (some (L, xs)) (d + 1) 0 561 (zLl i) [] (S, C) Q := by
  obtain ⟨hX, hM, hz, hW, hIX, hIM⟩ := id hI
  refine zE_next (pc' := 562) (ls' := zLl i) (st' := [.ref 0]) (H' := (S, C)) ((zf0 561).trans rfl) rfl ?_
  refine ze_arg (kn := 1) zA_562 hi (by decide) hL ?_
  refine ze_arg (kn := 2) zA_567 hi (by decide) hL ?_
  refine ze_arg (kn := 3) zA_572 hi (by decide) hL ?_
  refine ze_cx (d := d) (cx_thing hX hM hW (xs (i + 1)) (xs (i + 2)) (xs (i + 3))) hI ((zf0 577).trans rfl) rfl rfl rfl (by rw [ml_69]; rfl) (by omega) (fun R D' C1 k1 k2 k3 k4 => ?_)
  refine zE_next (pc' := 581) (ls' := zLl i) (st' := [.ref 42, .int R]) (H' := (S, C1)) ((zf0 580).trans rfl) rfl ?_
  refine ze_arg (kn := 1) zA_581 hi (by decide) hL ?_
  refine ze_arg (kn := 2) zA_586 hi (by decide) hL ?_
  refine ze_arg (kn := 3) zA_591 hi (by decide) hL ?_
  refine ze_cm (d := d) k4 ⟨hX, hM, hz⟩ k1 k2 k3 ((zf0 596).trans rfl) rfl rfl rfl (Nat.le_succ 1) (by rw [ml_187]; rfl) (by omega) (fun S2 C2 k5 => ?_)
  refine zE_next (pc' := 1629) (ls' := zLl i) (st' := []) (H' := (S2, C2)) ((zf0 599).trans rfl) (by show zx_n (if R = R then 1629 else 599 + 3) (zLl i) [] (S2, C2) = _; rw [if_pos rfl]; rfl) ?_
  exact K S2 C2 _ k5
theorem law_9 (hI : zIn S C D) (hi : i + 6 ≤ L) (hL : L ≤ 3072) (hd : 64 ≤ d) (K : ∀ S2 C2 D2, zIn S2 C2 D2 → zE (some (L, xs)) (d + 1) 0 1629 (zLl i) [] (S2, C2) Q) : zE (some (L, xs)) (d + 1) 0 604 (zLl i) [] (S, C) Q := by
  obtain ⟨hX, hM, hz, hW, hIX, hIM⟩ := id hI
  refine zE_next (pc' := 605) (ls' := zLl i) (st' := [.ref 0]) (H' := (S, C)) ((zf0 604).trans rfl) rfl ?_
  refine ze_arg (kn := 1) zA_605 hi (by decide) hL ?_
  refine ze_arg (kn := 2) zA_610 hi (by decide) hL ?_
  refine ze_arg (kn := 3) zA_615 hi (by decide) hL ?_
  refine ze_cx (d := d) (cx_worth hX hM hW (xs (i + 1)) (xs (i + 2)) (xs (i + 3))) hI ((zf0 620).trans rfl) rfl rfl rfl (by rw [ml_72]; rfl) (by omega) (fun R D' C1 k1 k2 k3 k4 => ?_)
  refine zE_next (pc' := 624) (ls' := zLl i) (st' := [.ref 42, .int R]) (H' := (S, C1)) ((zf0 623).trans rfl) rfl ?_
  refine ze_arg (kn := 1) zA_624 hi (by decide) hL ?_
  refine ze_arg (kn := 2) zA_629 hi (by decide) hL ?_
  refine ze_arg (kn := 3) zA_634 hi (by decide) hL ?_
  refine ze_cm (d := d) k4 ⟨hX, hM, hz⟩ k1 k2 k3 ((zf0 639).trans rfl) rfl rfl rfl (Nat.le_succ 1) (by rw [ml_189]; rfl) (by omega) (fun S2 C2 k5 => ?_)
  refine zE_next (pc' := 1629) (ls' := zLl i) (st' := []) (H' := (S2, C2)) ((zf0 642).trans rfl) (by show zx_n (if R = R then 1629 else 642 + 3) (zLl i) [] (S2, C2) = _; rw [if_pos rfl]; rfl) ?_
  exact K S2 C2 _ k5
theorem law_10 (hI : zIn S C D) (hi : i + 6 ≤ L) (hL : L ≤ 3072) (hd : 64 ≤ d) (K : ∀ S2 C2 D2, zIn S2 C2 D2 → zE (some (L, xs)) (d + 1) 0 1629 (zLl i) [] (S2, C2) Q) : zE (some (L, xs)) (d + 1) 0 647 (zLl i) [] (S, C) Q := by
  obtain ⟨hX, hM, hz, hW, hIX, hIM⟩ := id hI
  refine zE_next (pc' := 648) (ls' := zLl i) (st' := [.ref 0]) (H' := (S, C)) ((zf0 647).trans rfl) rfl ?_
  refine ze_arg (kn := 1) zA_648 hi (by decide) hL ?_
  refine ze_arg (kn := 2) zA_653 hi (by decide) hL ?_
  refine ze_cx (d := d) (cx_bent hX hM hW (xs (i + 1)) (xs (i + 2))) hI ((zf0 658).trans rfl) rfl rfl rfl (by rw [ml_73]; rfl) (by omega) (fun R D' C1 k1 k2 k3 k4 => ?_)
  refine zE_next (pc' := 662) (ls' := zLl i) (st' := [.ref 42, .int R]) (H' := (S, C1)) ((zf0 661).trans rfl) rfl ?_
  refine ze_arg (kn := 1) zA_662 hi (by decide) hL ?_
  refine ze_arg (kn := 2) zA_667 hi (by decide) hL ?_
  refine ze_cm (d := d) k4 ⟨hX, hM, hz⟩ k1 k2 k3 ((zf0 672).trans rfl) rfl rfl rfl (Nat.le_succ 1) (by rw [ml_191]; rfl) (by omega) (fun S2 C2 k5 => ?_)
  refine zE_next (pc' := 1629) (ls' := zLl i) (st' := []) (H' := (S2, C2)) ((zf0 675).trans rfl) (by show zx_n (if R = R then 1629 else 675 + 3) (zLl i) [] (S2, C2) = _; rw [if_pos rfl]; rfl) ?_
  exact K S2 C2 _ k5
theorem law_11 (hI : zIn S C D) (hi : i + 6 ≤ L) (hL : L ≤ 3072) (hd : 64 ≤ d) (K : ∀ S2 C2 D2, zIn S2 C2 D2 → zE (some (L, xs)) (d + 1) 0 1629 (zLl i) [] (S2, C2) Q) : zE (some (L, xs)) (d + 1) 0 680 (zLl i) [] (S, C) Q := by
  obtain ⟨hX, hM, hz, hW, hIX, hIM⟩ := id hI
  refine zE_next (pc' := 681) (ls' := zLl i) (st' := [.ref 0]) (H' := (S, C)) ((zf0 680).trans rfl) rfl ?_
  refine ze_arg (kn := 1) zA_681 hi (by decide) hL ?_
  refine ze_cx (d := d) (cx_law hX hM hW (xs (i + 1))) hI ((zf0 686).trans rfl) rfl rfl rfl (by rw [ml_74]; rfl) (by omega) (fun R D' C1 k1 k2 k3 k4 => ?_)
  refine zE_next (pc' := 690) (ls' := zLl i) (st' := [.ref 42, .int R]) (H' := (S, C1)) ((zf0 689).trans rfl) rfl ?_
  refine ze_arg (kn := 1) zA_690 hi (by decide) hL ?_
  refine ze_cm (d := d) k4 ⟨hX, hM, hz⟩ k1 k2 k3 ((zf0 695).trans rfl) rfl rfl rfl (Nat.le_succ 1) (by rw [ml_192]; rfl) (by omega) (fun S2 C2 k5 => ?_)
  refine zE_next (pc' := 1629) (ls' := zLl i) (st' := []) (H' := (S2, C2)) ((zf0 698).trans rfl) (by show zx_n (if R = R then 1629 else 698 + 3) (zLl i) [] (S2, C2) = _; rw [if_pos rfl]; rfl) ?_
  exact K S2 C2 _ k5
theorem law_12 (hI : zIn S C D) (hi : i + 6 ≤ L) (hL : L ≤ 3072) (hd : 64 ≤ d) (K : ∀ S2 C2 D2, zIn S2 C2 D2 → zE (some (L, xs)) (d + 1) 0 1629 (zLl i) [] (S2, C2) Q) : zE (some (L, xs)) (d + 1) 0 703 (zLl i) [] (S, C) Q := by
  obtain ⟨hX, hM, hz, hW, hIX, hIM⟩ := id hI
  refine zE_next (pc' := 704) (ls' := zLl i) (st' := [.ref 0]) (H' := (S, C)) ((zf0 703).trans rfl) rfl ?_
  refine ze_arg (kn := 1) zA_704 hi (by decide) hL ?_
  refine ze_arg (kn := 2) zA_709 hi (by decide) hL ?_
  refine ze_cx (d := d) (cx_order hX hM hW (xs (i + 1)) (xs (i + 2))) hI ((zf0 714).trans rfl) rfl rfl rfl (by rw [ml_76]; rfl) (by omega) (fun R D' C1 k1 k2 k3 k4 => ?_)
  refine zE_next (pc' := 718) (ls' := zLl i) (st' := [.ref 42, .int R]) (H' := (S, C1)) ((zf0 717).trans rfl) rfl ?_
  refine ze_arg (kn := 1) zA_718 hi (by decide) hL ?_
  refine ze_arg (kn := 2) zA_723 hi (by decide) hL ?_
  refine ze_cm (d := d) k4 ⟨hX, hM, hz⟩ k1 k2 k3 ((zf0 728).trans rfl) rfl rfl rfl (Nat.le_succ 1) (by rw [ml_193]; rfl) (by omega) (fun S2 C2 k5 => ?_)
  refine zE_next (pc' := 1629) (ls' := zLl i) (st' := []) (H' := (S2, C2)) ((zf0 731).trans rfl) (by show zx_n (if R = R then 1629 else 731 + 3) (zLl i) [] (S2, C2) = _; rw [if_pos rfl]; rfl) ?_
  exact K S2 C2 _ k5
theorem law_13 (hI : zIn S C D) (hi : i + 6 ≤ L) (hL : L ≤ 3072) (hd : 64 ≤ d) (K : ∀ S2 C2 D2, zIn S2 C2 D2 → zE (some (L, xs)) (d + 1) 0 1629 (zLl i) [] (S2, C2) Q) : zE (some (L, xs)) (d + 1) 0 736 (zLl i) [] (S, C) Q := by
  obtain ⟨hX, hM, hz, hW, hIX, hIM⟩ := id hI
  refine zE_next (pc' := 737) (ls' := zLl i) (st' := [.ref 0]) (H' := (S, C)) ((zf0 736).trans rfl) rfl ?_
  refine ze_arg (kn := 1) zA_737 hi (by decide) hL ?_
  refine ze_cx (d := d) (cx_turn hX hM hW (xs (i + 1))) hI ((zf0 742).trans rfl) rfl rfl rfl (by rw [ml_78]; rfl) (by omega) (fun R D' C1 k1 k2 k3 k4 => ?_)
  refine zE_next (pc' := 746) (ls' := zLl i) (st' := [.ref 42, .int R]) (H' := (S, C1)) ((zf0 745).trans rfl) rfl ?_
  refine ze_arg (kn := 1) zA_746 hi (by decide) hL ?_
  refine ze_cm (d := d) k4 ⟨hX, hM, hz⟩ k1 k2 k3 ((zf0 751).trans rfl) rfl rfl rfl (Nat.le_succ 1) (by rw [ml_194]; rfl) (by omega) (fun S2 C2 k5 => ?_)
  refine zE_next (pc' := 1629) (ls' := zLl i) (st' := []) (H' := (S2, C2)) ((zf0 754).trans rfl) (by show zx_n (if R = R then 1629 else 754 + 3) (zLl i) [] (S2, C2) = _; rw [if_pos rfl]; rfl) ?_
  exact K S2 C2 _ k5
theorem law_14 (hI : zIn S C D) (hi : i + 6 ≤ L) (hL : L ≤ 3072) (hd : 64 ≤ d) (K : ∀ S2 C2 D2, zIn S2 C2 D2 → zE (some (L, xs)) (d + 1) 0 1629 (zLl i) [] (S2, C2) Q) : zE (some (L, xs)) (d + 1) 0 759 (zLl i) [] (S, C) Q := by
  obtain ⟨hX, hM, hz, hW, hIX, hIM⟩ := id hI
  refine zE_next (pc' := 760) (ls' := zLl i) (st' := [.ref 0]) (H' := (S, C)) ((zf0 759).trans rfl) rfl ?_
  refine ze_arg (kn := 1) zA_760 hi (by decide) hL ?_
  refine ze_arg (kn := 2) zA_765 hi (by decide) hL ?_
  refine ze_cx (d := d) (cx_own hX hM hW (xs (i + 1)) (xs (i + 2))) hI ((zf0 770).trans rfl) rfl rfl rfl (by rw [ml_79]; rfl) (by omega) (fun R D' C1 k1 k2 k3 k4 => ?_)
  refine zE_next (pc' := 774) (ls' := zLl i) (st' := [.ref 42, .int R]) (H' := (S, C1)) ((zf0 773).trans rfl) rfl ?_
  refine ze_arg (kn := 1) zA_774 hi (by decide) hL ?_
  refine ze_arg (kn := 2) zA_779 hi (by decide) hL ?_
  refine ze_cm (d := d) k4 ⟨hX, hM, hz⟩ k1 k2 k3 ((zf0 784).trans rfl) rfl rfl rfl (Nat.le_succ 1) (by rw [ml_195]; rfl) (by omega) (fun S2 C2 k5 => ?_)
  refine zE_next (pc' := 1629) (ls' := zLl i) (st' := []) (H' := (S2, C2)) ((zf0 787).trans rfl) (by show zx_n (if R = R then 1629 else 787 + 3) (zLl i) [] (S2, C2) = _; rw [if_pos rfl]; rfl) ?_
  exact K S2 C2 _ k5
theorem law_15 (hI : zIn S C D) (hi : i + 6 ≤ L) (hL : L ≤ 3072) (hd : 64 ≤ d) (K : ∀ S2 C2 D2, zIn S2 C2 D2 → zE (some (L, xs)) (d + 1) 0 1629 (zLl i) [] (S2, C2) Q) : zE (some (L, xs)) (d + 1) 0 792 (zLl i) [] (S, C) Q := by
  obtain ⟨hX, hM, hz, hW, hIX, hIM⟩ := id hI
  refine zE_next (pc' := 793) (ls' := zLl i) (st' := [.ref 0]) (H' := (S, C)) ((zf0 792).trans rfl) rfl ?_
  refine ze_arg (kn := 1) zA_793 hi (by decide) hL ?_
  refine ze_cx (d := d) (cx_feed hX hM hW (xs (i + 1))) hI ((zf0 798).trans rfl) rfl rfl rfl (by rw [ml_81]; rfl) (by omega) (fun R D' C1 k1 k2 k3 k4 => ?_)
  refine zE_next (pc' := 802) (ls' := zLl i) (st' := [.ref 42, .int R]) (H' := (S, C1)) ((zf0 801).trans rfl) rfl ?_
  refine ze_arg (kn := 1) zA_802 hi (by decide) hL ?_
  refine ze_cm (d := d) k4 ⟨hX, hM, hz⟩ k1 k2 k3 ((zf0 807).trans rfl) rfl rfl rfl (Nat.le_succ 1) (by rw [ml_196]; rfl) (by omega) (fun S2 C2 k5 => ?_)
  refine zE_next (pc' := 1629) (ls' := zLl i) (st' := []) (H' := (S2, C2)) ((zf0 810).trans rfl) (by show zx_n (if R = R then 1629 else 810 + 3) (zLl i) [] (S2, C2) = _; rw [if_pos rfl]; rfl) ?_
  exact K S2 C2 _ k5
theorem law_16 (hI : zIn S C D) (hi : i + 6 ≤ L) (hL : L ≤ 3072) (hd : 64 ≤ d) (K : ∀ S2 C2 D2, zIn S2 C2 D2 → zE (some (L, xs)) (d + 1) 0 1629 (zLl i) [] (S2, C2) Q) : zE (some (L, xs)) (d + 1) 0 815 (zLl i) [] (S, C) Q := by
  obtain ⟨hX, hM, hz, hW, hIX, hIM⟩ := id hI
  refine zE_next (pc' := 816) (ls' := zLl i) (st' := [.ref 0]) (H' := (S, C)) ((zf0 815).trans rfl) rfl ?_
  refine ze_cx (d := d) (cx_wipe hX hM hW) hI ((zf0 816).trans rfl) rfl rfl rfl (by rw [ml_82]; rfl) (by omega) (fun R D' C1 k1 k2 k3 k4 => ?_)
  refine zE_next (pc' := 820) (ls' := zLl i) (st' := [.ref 42, .int R]) (H' := (S, C1)) ((zf0 819).trans rfl) rfl ?_
  refine ze_cm (d := d) k4 ⟨hX, hM, hz⟩ k1 k2 k3 ((zf0 820).trans rfl) rfl rfl rfl (Nat.le_succ 1) (by rw [ml_197]; rfl) (by omega) (fun S2 C2 k5 => ?_)
  refine zE_next (pc' := 1629) (ls' := zLl i) (st' := []) (H' := (S2, C2)) ((zf0 823).trans rfl) (by show zx_n (if R = R then 1629 else 823 + 3) (zLl i) [] (S2, C2) = _; rw [if_pos rfl]; rfl) ?_
  exact K S2 C2 _ k5
theorem law_17 (hEst : ∀ S D, zs_4 S 0 → zs_5 S 42 → zWI D → zBX (some (L, xs)) S 0 42 D 7 83 [] 7 198 []) (hI : zIn S C D) (hi : i + 6 ≤ L) (hL : L ≤ 3072) (hd : 64 ≤ d) (K : ∀ S2 C2 D2, zIn S2 C2 D2 → zE (some (L, xs)) (d + 1) 0 1629 (zLl i) [] (S2, C2) Q) : zE (some (L, xs)) (d + 1) 0 828 (zLl i) [] (S, C) Q := by
  obtain ⟨hX, hM, hz, hW, hIX, hIM⟩ := id hI
  refine zE_next (pc' := 829) (ls' := zLl i) (st' := [.ref 0]) (H' := (S, C)) ((zf0 828).trans rfl) rfl ?_
  refine ze_cx (d := d) (hEst S D hX hM hW) hI ((zf0 829).trans rfl) rfl rfl rfl (by rw [ml_83]; rfl) (by omega) (fun R D' C1 k1 k2 k3 k4 => ?_)
  refine zE_next (pc' := 833) (ls' := zLl i) (st' := [.ref 42, .int R]) (H' := (S, C1)) ((zf0 832).trans rfl) rfl ?_
  refine ze_cm (d := d) k4 ⟨hX, hM, hz⟩ k1 k2 k3 ((zf0 833).trans rfl) rfl rfl rfl (Nat.le_succ 1) (by rw [ml_198]; rfl) (by omega) (fun S2 C2 k5 => ?_)
  refine zE_next (pc' := 1629) (ls' := zLl i) (st' := []) (H' := (S2, C2)) ((zf0 836).trans rfl) (by show zx_n (if R = R then 1629 else 836 + 3) (zLl i) [] (S2, C2) = _; rw [if_pos rfl]; rfl) ?_
  exact K S2 C2 _ k5
theorem law_18 (hI : zIn S C D) (hi : i + 6 ≤ L) (hL : L ≤ 3072) (hd : 64 ≤ d) (K : ∀ S2 C2 D2, zIn S2 C2 D2 → zE (some (L, xs)) (d + 1) 0 1629 (zLl i) [] (S2, C2) Q) : zE (some (L, xs)) (d + 1) 0 841 (zLl i) [] (S, C) Q := by
  obtain ⟨hX, hM, hz, hW, hIX, hIM⟩ := id hI
  refine zE_next (pc' := 842) (ls' := zLl i) (st' := [.ref 0]) (H' := (S, C)) ((zf0 841).trans rfl) rfl ?_
  refine ze_arg (kn := 1) zA_842 hi (by decide) hL ?_
  refine ze_arg (kn := 2) zA_847 hi (by decide) hL ?_
  refine ze_cx (d := d) (cx_thingOf hX hM hW (xs (i + 1)) (xs (i + 2))) hI ((zf0 852).trans rfl) rfl rfl rfl (by rw [ml_109]; rfl) (by omega) (fun R D' C1 k1 k2 k3 k4 => ?_)
  refine zE_next (pc' := 856) (ls' := zLl i) (st' := [.ref 42, .int R]) (H' := (S, C1)) ((zf0 855).trans rfl) rfl ?_
  refine ze_arg (kn := 1) zA_856 hi (by decide) hL ?_
  refine ze_arg (kn := 2) zA_861 hi (by decide) hL ?_
  refine ze_cm (d := d) k4 ⟨hX, hM, hz⟩ k1 k2 k3 ((zf0 866).trans rfl) rfl rfl rfl (Nat.le_succ 1) (by rw [ml_213]; rfl) (by omega) (fun S2 C2 k5 => ?_)
  refine zE_next (pc' := 1629) (ls' := zLl i) (st' := []) (H' := (S2, C2)) ((zf0 869).trans rfl) (by show zx_n (if R = R then 1629 else 869 + 3) (zLl i) [] (S2, C2) = _; rw [if_pos rfl]; rfl) ?_
  exact K S2 C2 _ k5
theorem law_19 (hI : zIn S C D) (hi : i + 6 ≤ L) (hL : L ≤ 3072) (hd : 64 ≤ d) (K : ∀ S2 C2 D2, zIn S2 C2 D2 → zE (some (L, xs)) (d + 1) 0 1629 (zLl i) [] (S2, C2) Q) : zE (some (L, xs)) (d + 1) 0 874 (zLl i) [] (S, C) Q := by
  obtain ⟨hX, hM, hz, hW, hIX, hIM⟩ := id hI
  refine zE_next (pc' := 875) (ls' := zLl i) (st' := [.ref 0]) (H' := (S, C)) ((zf0 874).trans rfl) rfl ?_
  refine ze_arg (kn := 1) zA_875 hi (by decide) hL ?_
  refine ze_arg (kn := 2) zA_880 hi (by decide) hL ?_
  refine ze_cx (d := d) (cx_sideOf hX hM hW (xs (i + 1)) (xs (i + 2))) hI ((zf0 885).trans rfl) rfl rfl rfl (by rw [ml_110]; rfl) (by omega) (fun R D' C1 k1 k2 k3 k4 => ?_)
  refine zE_next (pc' := 889) (ls' := zLl i) (st' := [.ref 42, .int R]) (H' := (S, C1)) ((zf0 888).trans rfl) rfl ?_
  refine ze_arg (kn := 1) zA_889 hi (by decide) hL ?_
  refine ze_arg (kn := 2) zA_894 hi (by decide) hL ?_
  refine ze_cm (d := d) k4 ⟨hX, hM, hz⟩ k1 k2 k3 ((zf0 899).trans rfl) rfl rfl rfl (Nat.le_succ 1) (by rw [ml_214]; rfl) (by omega) (fun S2 C2 k5 => ?_)
  refine zE_next (pc' := 1629) (ls' := zLl i) (st' := []) (H' := (S2, C2)) ((zf0 902).trans rfl) (by show zx_n (if R = R then 1629 else 902 + 3) (zLl i) [] (S2, C2) = _; rw [if_pos rfl]; rfl) ?_
  exact K S2 C2 _ k5
theorem law_20 (hI : zIn S C D) (hi : i + 6 ≤ L) (hL : L ≤ 3072) (hd : 64 ≤ d) (K : ∀ S2 C2 D2, zIn S2 C2 D2 → zE (some (L, xs)) (d + 1) 0 1629 (zLl i) [] (S2, C2) Q) : zE (some (L, xs)) (d + 1) 0 907 (zLl i) [] (S, C) Q := by
  obtain ⟨hX, hM, hz, hW, hIX, hIM⟩ := id hI
  refine zE_next (pc' := 908) (ls' := zLl i) (st' := [.ref 0]) (H' := (S, C)) ((zf0 907).trans rfl) rfl ?_
  refine ze_arg (kn := 1) zA_908 hi (by decide) hL ?_
  refine ze_arg (kn := 2) zA_913 hi (by decide) hL ?_
  refine ze_cx (d := d) (cx_whose hX hM hW (xs (i + 1)) (xs (i + 2))) hI ((zf0 918).trans rfl) rfl rfl rfl (by rw [ml_111]; rfl) (by omega) (fun R D' C1 k1 k2 k3 k4 => ?_)
  refine zE_next (pc' := 922) (ls' := zLl i) (st' := [.ref 42, .int R]) (H' := (S, C1)) ((zf0 921).trans rfl) rfl ?_
  refine ze_arg (kn := 1) zA_922 hi (by decide) hL ?_
  refine ze_arg (kn := 2) zA_927 hi (by decide) hL ?_
  refine ze_cm (d := d) k4 ⟨hX, hM, hz⟩ k1 k2 k3 ((zf0 932).trans rfl) rfl rfl rfl (Nat.le_succ 1) (by rw [ml_217]; rfl) (by omega) (fun S2 C2 k5 => ?_)
  refine zE_next (pc' := 1629) (ls' := zLl i) (st' := []) (H' := (S2, C2)) ((zf0 935).trans rfl) (by show zx_n (if R = R then 1629 else 935 + 3) (zLl i) [] (S2, C2) = _; rw [if_pos rfl]; rfl) ?_
  exact K S2 C2 _ k5
theorem law_21 (hI : zIn S C D) (hi : i + 6 ≤ L) (hL : L ≤ 3072) (hd : 64 ≤ d) (K : ∀ S2 C2 D2, zIn S2 C2 D2 → zE (some (L, xs)) (d + 1) 0 1629 (zLl i) [] (S2, C2) Q) : zE (some (L, xs)) (d + 1) 0 940 (zLl i) [] (S, C) Q := by
  obtain ⟨hX, hM, hz, hW, hIX, hIM⟩ := id hI
  refine zE_next (pc' := 941) (ls' := zLl i) (st' := [.ref 0]) (H' := (S, C)) ((zf0 940).trans rfl) rfl ?_
  refine ze_arg (kn := 1) zA_941 hi (by decide) hL ?_
  refine ze_arg (kn := 2) zA_946 hi (by decide) hL ?_
  refine ze_cx (d := d) (cx_runs hX hM hW (xs (i + 1)) (xs (i + 2))) hI ((zf0 951).trans rfl) rfl rfl rfl (by rw [ml_112]; rfl) (by omega) (fun R D' C1 k1 k2 k3 k4 => ?_)
  refine zE_next (pc' := 955) (ls' := zLl i) (st' := [.ref 42, .int R]) (H' := (S, C1)) ((zf0 954).trans rfl) rfl ?_
  refine ze_arg (kn := 1) zA_955 hi (by decide) hL ?_
  refine ze_arg (kn := 2) zA_960 hi (by decide) hL ?_
  refine ze_cm (d := d) k4 ⟨hX, hM, hz⟩ k1 k2 k3 ((zf0 965).trans rfl) rfl rfl rfl (Nat.le_succ 1) (by rw [ml_218]; rfl) (by omega) (fun S2 C2 k5 => ?_)
  refine zE_next (pc' := 1629) (ls' := zLl i) (st' := []) (H' := (S2, C2)) ((zf0 968).trans rfl) (by show zx_n (if R = R then 1629 else 968 + 3) (zLl i) [] (S2, C2) = _; rw [if_pos rfl]; rfl) ?_
  exact K S2 C2 _ k5
theorem law_22 (hI : zIn S C D) (hi : i + 6 ≤ L) (hL : L ≤ 3072) (hd : 64 ≤ d) (K : ∀ S2 C2 D2, zIn S2 C2 D2 → zE (some (L, xs)) (d + 1) 0 1629 (zLl i) [] (S2, C2) Q) : zE (some (L, xs)) (d + 1) 0 973 (zLl i) [] (S, C) Q := by
  obtain ⟨hX, hM, hz, hW, hIX, hIM⟩ := id hI
  refine zE_next (pc' := 974) (ls' := zLl i) (st' := [.ref 0]) (H' := (S, C)) ((zf0 973).trans rfl) rfl ?_
  refine ze_arg (kn := 1) zA_974 hi (by decide) hL ?_
  refine ze_arg (kn := 2) zA_979 hi (by decide) hL ?_
  refine ze_arg (kn := 3) zA_984 hi (by decide) hL ?_
  refine ze_cy (d := d) (cx_powers hX hM hW (xs (i + 1)) (xs (i + 2)) (xs (i + 3))) hI ((zf0 989).trans rfl) rfl rfl rfl (by rw [ml_114]; rfl) (by omega) (fun R D' C1 k1 k2 k3 k4 => ?_)
  refine zE_next (pc' := 993) (ls' := zLl i) (st' := [.ref 42, .long R]) (H' := (S, C1)) ((zf0 992).trans rfl) rfl ?_
  refine ze_arg (kn := 1) zA_993 hi (by decide) hL ?_
  refine ze_arg (kn := 2) zA_998 hi (by decide) hL ?_
  refine ze_arg (kn := 3) zA_1003 hi (by decide) hL ?_
  refine ze_cm (d := d) k4 ⟨hX, hM, hz⟩ k1 k2 k3 ((zf0 1008).trans rfl) rfl rfl rfl (Nat.le_refl 2) (by rw [ml_219]; rfl) (by omega) (fun S2 C2 k5 => ?_)
  refine zE_next (pc' := 1012) (ls' := zLl i) (st' := [.int (lg_cmp R R)]) (H' := (S2, C2)) ((zf0 1011).trans rfl) rfl ?_
  refine zE_next (pc' := 1629) (ls' := zLl i) (st' := []) (H' := (S2, C2)) ((zf0 1012).trans rfl) (by show zx_n (if lg_cmp R R = (0 : Int32) then 1629 else 1012 + 3) (zLl i) [] (S2, C2) = _; rw [lg_self]; rfl) ?_
  exact K S2 C2 _ k5
theorem law_23 (hI : zIn S C D) (hi : i + 6 ≤ L) (hL : L ≤ 3072) (hd : 64 ≤ d) (K : ∀ S2 C2 D2, zIn S2 C2 D2 → zE (some (L, xs)) (d + 1) 0 1629 (zLl i) [] (S2, C2) Q) : zE (some (L, xs)) (d + 1) 0 1017 (zLl i) [] (S, C) Q := by
  obtain ⟨hX, hM, hz, hW, hIX, hIM⟩ := id hI
  refine zE_next (pc' := 1018) (ls' := zLl i) (st' := [.ref 0]) (H' := (S, C)) ((zf0 1017).trans rfl) rfl ?_
  refine ze_arg (kn := 1) zA_1018 hi (by decide) hL ?_
  refine ze_cx (d := d) (cx_rival hX hM hW (xs (i + 1))) hI ((zf0 1023).trans rfl) rfl rfl rfl (by rw [ml_116]; rfl) (by omega) (fun R D' C1 k1 k2 k3 k4 => ?_)
  refine zE_next (pc' := 1027) (ls' := zLl i) (st' := [.ref 42, .int R]) (H' := (S, C1)) ((zf0 1026).trans rfl) rfl ?_
  refine ze_arg (kn := 1) zA_1027 hi (by decide) hL ?_
  refine ze_cm (d := d) k4 ⟨hX, hM, hz⟩ k1 k2 k3 ((zf0 1032).trans rfl) rfl rfl rfl (Nat.le_succ 1) (by rw [ml_220]; rfl) (by omega) (fun S2 C2 k5 => ?_)
  refine zE_next (pc' := 1629) (ls' := zLl i) (st' := []) (H' := (S2, C2)) ((zf0 1035).trans rfl) (by show zx_n (if R = R then 1629 else 1035 + 3) (zLl i) [] (S2, C2) = _; rw [if_pos rfl]; rfl) ?_
  exact K S2 C2 _ k5
theorem law_24 (hI : zIn S C D) (hi : i + 6 ≤ L) (hL : L ≤ 3072) (hd : 64 ≤ d) (K : ∀ S2 C2 D2, zIn S2 C2 D2 → zE (some (L, xs)) (d + 1) 0 1629 (zLl i) [] (S2, C2) Q) : zE (some (L, xs)) (d + 1) 0 1040 (zLl i) [] (S, C) Q := by
  obtain ⟨hX, hM, hz, hW, hIX, hIM⟩ := id hI
  refine zE_next (pc' := 1041) (ls' := zLl i) (st' := [.ref 0]) (H' := (S, C)) ((zf0 1040).trans rfl) rfl ?_
  refine ze_arg (kn := 1) zA_1041 hi (by decide) hL ?_
  refine ze_cx (d := d) (cx_takes hX hM hW (xs (i + 1))) hI ((zf0 1046).trans rfl) rfl rfl rfl (by rw [ml_117]; rfl) (by omega) (fun R D' C1 k1 k2 k3 k4 => ?_)
  refine zE_next (pc' := 1050) (ls' := zLl i) (st' := [.ref 42, .int R]) (H' := (S, C1)) ((zf0 1049).trans rfl) rfl ?_
  refine ze_arg (kn := 1) zA_1050 hi (by decide) hL ?_
  refine ze_cm (d := d) k4 ⟨hX, hM, hz⟩ k1 k2 k3 ((zf0 1055).trans rfl) rfl rfl rfl (Nat.le_succ 1) (by rw [ml_221]; rfl) (by omega) (fun S2 C2 k5 => ?_)
  refine zE_next (pc' := 1629) (ls' := zLl i) (st' := []) (H' := (S2, C2)) ((zf0 1058).trans rfl) (by show zx_n (if R = R then 1629 else 1058 + 3) (zLl i) [] (S2, C2) = _; rw [if_pos rfl]; rfl) ?_
  exact K S2 C2 _ k5
theorem law_25 (hI : zIn S C D) (hi : i + 6 ≤ L) (hL : L ≤ 3072) (hd : 64 ≤ d) (K : ∀ S2 C2 D2, zIn S2 C2 D2 → zE (some (L, xs)) (d + 1) 0 1629 (zLl i) [] (S2, C2) Q) : zE (some (L, xs)) (d + 1) 0 1063 (zLl i) [] (S, C) Q := by
  obtain ⟨hX, hM, hz, hW, hIX, hIM⟩ := id hI
  refine zE_next (pc' := 1064) (ls' := zLl i) (st' := [.ref 0]) (H' := (S, C)) ((zf0 1063).trans rfl) rfl ?_
  refine ze_arg (kn := 1) zA_1064 hi (by decide) hL ?_
  refine ze_arg (kn := 2) zA_1069 hi (by decide) hL ?_
  refine ze_cx (d := d) (cx_run hX hM hW (xs (i + 1)) (xs (i + 2))) hI ((zf0 1074).trans rfl) rfl rfl rfl (by rw [ml_118]; rfl) (by omega) (fun R D' C1 k1 k2 k3 k4 => ?_)
  refine zE_next (pc' := 1078) (ls' := zLl i) (st' := [.ref 42, .int R]) (H' := (S, C1)) ((zf0 1077).trans rfl) rfl ?_
  refine ze_arg (kn := 1) zA_1078 hi (by decide) hL ?_
  refine ze_arg (kn := 2) zA_1083 hi (by decide) hL ?_
  refine ze_cm (d := d) k4 ⟨hX, hM, hz⟩ k1 k2 k3 ((zf0 1088).trans rfl) rfl rfl rfl (Nat.le_succ 1) (by rw [ml_222]; rfl) (by omega) (fun S2 C2 k5 => ?_)
  refine zE_next (pc' := 1629) (ls' := zLl i) (st' := []) (H' := (S2, C2)) ((zf0 1091).trans rfl) (by show zx_n (if R = R then 1629 else 1091 + 3) (zLl i) [] (S2, C2) = _; rw [if_pos rfl]; rfl) ?_
  exact K S2 C2 _ k5
theorem law_26 (hI : zIn S C D) (hi : i + 6 ≤ L) (hL : L ≤ 3072) (hd : 64 ≤ d) (K : ∀ S2 C2 D2, zIn S2 C2 D2 → zE (some (L, xs)) (d + 1) 0 1629 (zLl i) [] (S2, C2) Q) : zE (some (L, xs)) (d + 1) 0 1096 (zLl i) [] (S, C) Q := by
  obtain ⟨hX, hM, hz, hW, hIX, hIM⟩ := id hI
  refine zE_next (pc' := 1097) (ls' := zLl i) (st' := [.ref 0]) (H' := (S, C)) ((zf0 1096).trans rfl) rfl ?_
  refine ze_arg (kn := 1) zA_1097 hi (by decide) hL ?_
  refine ze_arg (kn := 2) zA_1102 hi (by decide) hL ?_
  refine ze_cx (d := d) (cx_gets hX hM hW (xs (i + 1)) (xs (i + 2))) hI ((zf0 1107).trans rfl) rfl rfl rfl (by rw [ml_122]; rfl) (by omega) (fun R D' C1 k1 k2 k3 k4 => ?_)
  refine zE_next (pc' := 1111) (ls' := zLl i) (st' := [.ref 42, .int R]) (H' := (S, C1)) ((zf0 1110).trans rfl) rfl ?_
  refine ze_arg (kn := 1) zA_1111 hi (by decide) hL ?_
  refine ze_arg (kn := 2) zA_1116 hi (by decide) hL ?_
  refine ze_cm (d := d) k4 ⟨hX, hM, hz⟩ k1 k2 k3 ((zf0 1121).trans rfl) rfl rfl rfl (Nat.le_succ 1) (by rw [ml_225]; rfl) (by omega) (fun S2 C2 k5 => ?_)
  refine zE_next (pc' := 1629) (ls' := zLl i) (st' := []) (H' := (S2, C2)) ((zf0 1124).trans rfl) (by show zx_n (if R = R then 1629 else 1124 + 3) (zLl i) [] (S2, C2) = _; rw [if_pos rfl]; rfl) ?_
  exact K S2 C2 _ k5
theorem law_27 (hI : zIn S C D) (hi : i + 6 ≤ L) (hL : L ≤ 3072) (hd : 64 ≤ d) (K : ∀ S2 C2 D2, zIn S2 C2 D2 → zE (some (L, xs)) (d + 1) 0 1629 (zLl i) [] (S2, C2) Q) : zE (some (L, xs)) (d + 1) 0 1129 (zLl i) [] (S, C) Q := by
  obtain ⟨hX, hM, hz, hW, hIX, hIM⟩ := id hI
  refine zE_next (pc' := 1130) (ls' := zLl i) (st' := [.ref 0]) (H' := (S, C)) ((zf0 1129).trans rfl) rfl ?_
  refine ze_arg (kn := 1) zA_1130 hi (by decide) hL ?_
  refine ze_cx (d := d) (cx_unequal hX hM hW (xs (i + 1))) hI ((zf0 1135).trans rfl) rfl rfl rfl (by rw [ml_123]; rfl) (by omega) (fun R D' C1 k1 k2 k3 k4 => ?_)
  refine zE_next (pc' := 1139) (ls' := zLl i) (st' := [.ref 42, .int R]) (H' := (S, C1)) ((zf0 1138).trans rfl) rfl ?_
  refine ze_arg (kn := 1) zA_1139 hi (by decide) hL ?_
  refine ze_cm (d := d) k4 ⟨hX, hM, hz⟩ k1 k2 k3 ((zf0 1144).trans rfl) rfl rfl rfl (Nat.le_succ 1) (by rw [ml_226]; rfl) (by omega) (fun S2 C2 k5 => ?_)
  refine zE_next (pc' := 1629) (ls' := zLl i) (st' := []) (H' := (S2, C2)) ((zf0 1147).trans rfl) (by show zx_n (if R = R then 1629 else 1147 + 3) (zLl i) [] (S2, C2) = _; rw [if_pos rfl]; rfl) ?_
  exact K S2 C2 _ k5
theorem law_28 (hI : zIn S C D) (hi : i + 6 ≤ L) (hL : L ≤ 3072) (hd : 64 ≤ d) (K : ∀ S2 C2 D2, zIn S2 C2 D2 → zE (some (L, xs)) (d + 1) 0 1629 (zLl i) [] (S2, C2) Q) : zE (some (L, xs)) (d + 1) 0 1152 (zLl i) [] (S, C) Q := by
  obtain ⟨hX, hM, hz, hW, hIX, hIM⟩ := id hI
  refine zE_next (pc' := 1153) (ls' := zLl i) (st' := [.ref 0]) (H' := (S, C)) ((zf0 1152).trans rfl) rfl ?_
  refine ze_arg (kn := 1) zA_1153 hi (by decide) hL ?_
  refine ze_arg (kn := 2) zA_1158 hi (by decide) hL ?_
  refine ze_cx (d := d) (cx_game hX hM hW (xs (i + 1)) (xs (i + 2))) hI ((zf0 1163).trans rfl) rfl rfl rfl (by rw [ml_125]; rfl) (by omega) (fun R D' C1 k1 k2 k3 k4 => ?_)
  refine zE_next (pc' := 1167) (ls' := zLl i) (st' := [.ref 42, .int R]) (H' := (S, C1)) ((zf0 1166).trans rfl) rfl ?_
  refine ze_arg (kn := 1) zA_1167 hi (by decide) hL ?_
  refine ze_arg (kn := 2) zA_1172 hi (by decide) hL ?_
  refine ze_cm (d := d) k4 ⟨hX, hM, hz⟩ k1 k2 k3 ((zf0 1177).trans rfl) rfl rfl rfl (Nat.le_succ 1) (by rw [ml_229]; rfl) (by omega) (fun S2 C2 k5 => ?_)
  refine zE_next (pc' := 1629) (ls' := zLl i) (st' := []) (H' := (S2, C2)) ((zf0 1180).trans rfl) (by show zx_n (if R = R then 1629 else 1180 + 3) (zLl i) [] (S2, C2) = _; rw [if_pos rfl]; rfl) ?_
  exact K S2 C2 _ k5
theorem law_29 (hI : zIn S C D) (hi : i + 6 ≤ L) (hL : L ≤ 3072) (hd : 64 ≤ d) (K : ∀ S2 C2 D2, zIn S2 C2 D2 → zE (some (L, xs)) (d + 1) 0 1629 (zLl i) [] (S2, C2) Q) : zE (some (L, xs)) (d + 1) 0 1185 (zLl i) [] (S, C) Q := by
  obtain ⟨hX, hM, hz, hW, hIX, hIM⟩ := id hI
  refine zE_next (pc' := 1186) (ls' := zLl i) (st' := [.ref 0]) (H' := (S, C)) ((zf0 1185).trans rfl) rfl ?_
  refine ze_arg (kn := 1) zA_1186 hi (by decide) hL ?_
  refine ze_cx (d := d) (cx_opening hX hM hW (xs (i + 1))) hI ((zf0 1191).trans rfl) rfl rfl rfl (by rw [ml_128]; rfl) (by omega) (fun R D' C1 k1 k2 k3 k4 => ?_)
  refine zE_next (pc' := 1195) (ls' := zLl i) (st' := [.ref 42, .int R]) (H' := (S, C1)) ((zf0 1194).trans rfl) rfl ?_
  refine ze_arg (kn := 1) zA_1195 hi (by decide) hL ?_
  refine ze_cm (d := d) k4 ⟨hX, hM, hz⟩ k1 k2 k3 ((zf0 1200).trans rfl) rfl rfl rfl (Nat.le_succ 1) (by rw [ml_232]; rfl) (by omega) (fun S2 C2 k5 => ?_)
  refine zE_next (pc' := 1629) (ls' := zLl i) (st' := []) (H' := (S2, C2)) ((zf0 1203).trans rfl) (by show zx_n (if R = R then 1629 else 1203 + 3) (zLl i) [] (S2, C2) = _; rw [if_pos rfl]; rfl) ?_
  exact K S2 C2 _ k5
theorem law_30 (hI : zIn S C D) (hi : i + 6 ≤ L) (hL : L ≤ 3072) (hd : 64 ≤ d) (K : ∀ S2 C2 D2, zIn S2 C2 D2 → zE (some (L, xs)) (d + 1) 0 1629 (zLl i) [] (S2, C2) Q) : zE (some (L, xs)) (d + 1) 0 1208 (zLl i) [] (S, C) Q := by
  obtain ⟨hX, hM, hz, hW, hIX, hIM⟩ := id hI
  refine zE_next (pc' := 1209) (ls' := zLl i) (st' := [.ref 0]) (H' := (S, C)) ((zf0 1208).trans rfl) rfl ?_
  refine ze_arg (kn := 1) zA_1209 hi (by decide) hL ?_
  refine ze_cx (d := d) (cx_fairest hX hM hW (xs (i + 1))) hI ((zf0 1214).trans rfl) rfl rfl rfl (by rw [ml_129]; rfl) (by omega) (fun R D' C1 k1 k2 k3 k4 => ?_)
  refine zE_next (pc' := 1218) (ls' := zLl i) (st' := [.ref 42, .int R]) (H' := (S, C1)) ((zf0 1217).trans rfl) rfl ?_
  refine ze_arg (kn := 1) zA_1218 hi (by decide) hL ?_
  refine ze_cm (d := d) k4 ⟨hX, hM, hz⟩ k1 k2 k3 ((zf0 1223).trans rfl) rfl rfl rfl (Nat.le_succ 1) (by rw [ml_233]; rfl) (by omega) (fun S2 C2 k5 => ?_)
  refine zE_next (pc' := 1629) (ls' := zLl i) (st' := []) (H' := (S2, C2)) ((zf0 1226).trans rfl) (by show zx_n (if R = R then 1629 else 1226 + 3) (zLl i) [] (S2, C2) = _; rw [if_pos rfl]; rfl) ?_
  exact K S2 C2 _ k5
theorem law_31 (hI : zIn S C D) (hi : i + 6 ≤ L) (hL : L ≤ 3072) (hd : 64 ≤ d) (K : ∀ S2 C2 D2, zIn S2 C2 D2 → zE (some (L, xs)) (d + 1) 0 1629 (zLl i) [] (S2, C2) Q) : zE (some (L, xs)) (d + 1) 0 1231 (zLl i) [] (S, C) Q := by
  obtain ⟨hX, hM, hz, hW, hIX, hIM⟩ := id hI
  refine zE_next (pc' := 1232) (ls' := zLl i) (st' := [.ref 0]) (H' := (S, C)) ((zf0 1231).trans rfl) rfl ?_
  refine ze_cx (d := d) (cx_best hX hM hW) hI ((zf0 1232).trans rfl) rfl rfl rfl (by rw [ml_133]; rfl) (by omega) (fun R D' C1 k1 k2 k3 k4 => ?_)
  refine zE_next (pc' := 1236) (ls' := zLl i) (st' := [.ref 42, .int R]) (H' := (S, C1)) ((zf0 1235).trans rfl) rfl ?_
  refine ze_cm (d := d) k4 ⟨hX, hM, hz⟩ k1 k2 k3 ((zf0 1236).trans rfl) rfl rfl rfl (Nat.le_succ 1) (by rw [ml_228]; rfl) (by omega) (fun S2 C2 k5 => ?_)
  refine zE_next (pc' := 1629) (ls' := zLl i) (st' := []) (H' := (S2, C2)) ((zf0 1239).trans rfl) (by show zx_n (if R = R then 1629 else 1239 + 3) (zLl i) [] (S2, C2) = _; rw [if_pos rfl]; rfl) ?_
  exact K S2 C2 _ k5
theorem law_32 (hI : zIn S C D) (hi : i + 6 ≤ L) (hL : L ≤ 3072) (hd : 64 ≤ d) (K : ∀ S2 C2 D2, zIn S2 C2 D2 → zE (some (L, xs)) (d + 1) 0 1629 (zLl i) [] (S2, C2) Q) : zE (some (L, xs)) (d + 1) 0 1244 (zLl i) [] (S, C) Q := by
  obtain ⟨hX, hM, hz, hW, hIX, hIM⟩ := id hI
  refine zE_next (pc' := 1245) (ls' := zLl i) (st' := [.ref 0]) (H' := (S, C)) ((zf0 1244).trans rfl) rfl ?_
  refine ze_arg (kn := 1) zA_1245 hi (by decide) hL ?_
  refine ze_arg (kn := 2) zA_1250 hi (by decide) hL ?_
  refine ze_cx (d := d) (cx_sham hX hM hW (xs (i + 1)) (xs (i + 2))) hI ((zf0 1255).trans rfl) rfl rfl rfl (by rw [ml_134]; rfl) (by omega) (fun R D' C1 k1 k2 k3 k4 => ?_)
  refine zE_next (pc' := 1259) (ls' := zLl i) (st' := [.ref 42, .int R]) (H' := (S, C1)) ((zf0 1258).trans rfl) rfl ?_
  refine ze_arg (kn := 1) zA_1259 hi (by decide) hL ?_
  refine ze_arg (kn := 2) zA_1264 hi (by decide) hL ?_
  refine ze_cm (d := d) k4 ⟨hX, hM, hz⟩ k1 k2 k3 ((zf0 1269).trans rfl) rfl rfl rfl (Nat.le_succ 1) (by rw [ml_236]; rfl) (by omega) (fun S2 C2 k5 => ?_)
  refine zE_next (pc' := 1629) (ls' := zLl i) (st' := []) (H' := (S2, C2)) ((zf0 1272).trans rfl) (by show zx_n (if R = R then 1629 else 1272 + 3) (zLl i) [] (S2, C2) = _; rw [if_pos rfl]; rfl) ?_
  exact K S2 C2 _ k5
theorem law_33 (hI : zIn S C D) (hi : i + 6 ≤ L) (hL : L ≤ 3072) (hd : 64 ≤ d) (K : ∀ S2 C2 D2, zIn S2 C2 D2 → zE (some (L, xs)) (d + 1) 0 1629 (zLl i) [] (S2, C2) Q) : zE (some (L, xs)) (d + 1) 0 1277 (zLl i) [] (S, C) Q := by
  obtain ⟨hX, hM, hz, hW, hIX, hIM⟩ := id hI
  refine zE_next (pc' := 1278) (ls' := zLl i) (st' := [.ref 0]) (H' := (S, C)) ((zf0 1277).trans rfl) rfl ?_
  refine ze_arg (kn := 1) zA_1278 hi (by decide) hL ?_
  refine ze_arg (kn := 2) zA_1283 hi (by decide) hL ?_
  refine ze_cx (d := d) (cx_judge hX hM hW (xs (i + 1)) (xs (i + 2))) hI ((zf0 1288).trans rfl) rfl rfl rfl (by rw [ml_135]; rfl) (by omega) (fun R D' C1 k1 k2 k3 k4 => ?_)
  refine zE_next (pc' := 1292) (ls' := zLl i) (st' := [.ref 42, .int R]) (H' := (S, C1)) ((zf0 1291).trans rfl) rfl ?_
  refine ze_arg (kn := 1) zA_1292 hi (by decide) hL ?_
  refine ze_arg (kn := 2) zA_1297 hi (by decide) hL ?_
  refine ze_cm (d := d) k4 ⟨hX, hM, hz⟩ k1 k2 k3 ((zf0 1302).trans rfl) rfl rfl rfl (Nat.le_succ 1) (by rw [ml_237]; rfl) (by omega) (fun S2 C2 k5 => ?_)
  refine zE_next (pc' := 1629) (ls' := zLl i) (st' := []) (H' := (S2, C2)) ((zf0 1305).trans rfl) (by show zx_n (if R = R then 1629 else 1305 + 3) (zLl i) [] (S2, C2) = _; rw [if_pos rfl]; rfl) ?_
  exact K S2 C2 _ k5
theorem law_34 (hI : zIn S C D) (hi : i + 6 ≤ L) (hL : L ≤ 3072) (hd : 64 ≤ d) (K : ∀ S2 C2 D2, zIn S2 C2 D2 → zE (some (L, xs)) (d + 1) 0 1629 (zLl i) [] (S2, C2) Q) : zE (some (L, xs)) (d + 1) 0 1310 (zLl i) [] (S, C) Q := by
  obtain ⟨hX, hM, hz, hW, hIX, hIM⟩ := id hI
  refine zE_next (pc' := 1311) (ls' := zLl i) (st' := [.ref 0]) (H' := (S, C)) ((zf0 1310).trans rfl) rfl ?_
  refine ze_arg (kn := 1) zA_1311 hi (by decide) hL ?_
  refine ze_arg (kn := 2) zA_1316 hi (by decide) hL ?_
  refine ze_cx (d := d) (cx_stolen hX hM hW (xs (i + 1)) (xs (i + 2))) hI ((zf0 1321).trans rfl) rfl rfl rfl (by rw [ml_138]; rfl) (by omega) (fun R D' C1 k1 k2 k3 k4 => ?_)
  refine zE_next (pc' := 1325) (ls' := zLl i) (st' := [.ref 42, .int R]) (H' := (S, C1)) ((zf0 1324).trans rfl) rfl ?_
  refine ze_arg (kn := 1) zA_1325 hi (by decide) hL ?_
  refine ze_arg (kn := 2) zA_1330 hi (by decide) hL ?_
  refine ze_cm (d := d) k4 ⟨hX, hM, hz⟩ k1 k2 k3 ((zf0 1335).trans rfl) rfl rfl rfl (Nat.le_succ 1) (by rw [ml_240]; rfl) (by omega) (fun S2 C2 k5 => ?_)
  refine zE_next (pc' := 1629) (ls' := zLl i) (st' := []) (H' := (S2, C2)) ((zf0 1338).trans rfl) (by show zx_n (if R = R then 1629 else 1338 + 3) (zLl i) [] (S2, C2) = _; rw [if_pos rfl]; rfl) ?_
  exact K S2 C2 _ k5
theorem law_35 (hI : zIn S C D) (hi : i + 6 ≤ L) (hL : L ≤ 3072) (hd : 64 ≤ d) (K : ∀ S2 C2 D2, zIn S2 C2 D2 → zE (some (L, xs)) (d + 1) 0 1629 (zLl i) [] (S2, C2) Q) : zE (some (L, xs)) (d + 1) 0 1343 (zLl i) [] (S, C) Q := by
  obtain ⟨hX, hM, hz, hW, hIX, hIM⟩ := id hI
  refine zE_next (pc' := 1344) (ls' := zLl i) (st' := [.ref 0]) (H' := (S, C)) ((zf0 1343).trans rfl) rfl ?_
  refine ze_arg (kn := 1) zA_1344 hi (by decide) hL ?_
  refine ze_arg (kn := 2) zA_1349 hi (by decide) hL ?_
  refine ze_arg (kn := 3) zA_1354 hi (by decide) hL ?_
  refine ze_cx (d := d) (cx_fits hX hM hW (xs (i + 1)) (xs (i + 2)) (xs (i + 3))) hI ((zf0 1359).trans rfl) rfl rfl rfl (by rw [ml_139]; rfl) (by omega) (fun R D' C1 k1 k2 k3 k4 => ?_)
  refine zE_next (pc' := 1363) (ls' := zLl i) (st' := [.ref 42, .int R]) (H' := (S, C1)) ((zf0 1362).trans rfl) rfl ?_
  refine ze_arg (kn := 1) zA_1363 hi (by decide) hL ?_
  refine ze_arg (kn := 2) zA_1368 hi (by decide) hL ?_
  refine ze_arg (kn := 3) zA_1373 hi (by decide) hL ?_
  refine ze_cm (d := d) k4 ⟨hX, hM, hz⟩ k1 k2 k3 ((zf0 1378).trans rfl) rfl rfl rfl (Nat.le_succ 1) (by rw [ml_241]; rfl) (by omega) (fun S2 C2 k5 => ?_)
  refine zE_next (pc' := 1629) (ls' := zLl i) (st' := []) (H' := (S2, C2)) ((zf0 1381).trans rfl) (by show zx_n (if R = R then 1629 else 1381 + 3) (zLl i) [] (S2, C2) = _; rw [if_pos rfl]; rfl) ?_
  exact K S2 C2 _ k5
theorem law_36 (hI : zIn S C D) (hi : i + 6 ≤ L) (hL : L ≤ 3072) (hd : 64 ≤ d) (K : ∀ S2 C2 D2, zIn S2 C2 D2 → zE (some (L, xs)) (d + 1) 0 1629 (zLl i) [] (S2, C2) Q) : zE (some (L, xs)) (d + 1) 0 1386 (zLl i) [] (S, C) Q := by
  obtain ⟨hX, hM, hz, hW, hIX, hIM⟩ := id hI
  refine zE_next (pc' := 1387) (ls' := zLl i) (st' := [.ref 0]) (H' := (S, C)) ((zf0 1386).trans rfl) rfl ?_
  refine ze_arg (kn := 1) zA_1387 hi (by decide) hL ?_
  refine ze_cx (d := d) (cx_trades hX hM hW (xs (i + 1))) hI ((zf0 1392).trans rfl) rfl rfl rfl (by rw [ml_143]; rfl) (by omega) (fun R D' C1 k1 k2 k3 k4 => ?_)
  refine zE_next (pc' := 1396) (ls' := zLl i) (st' := [.ref 42, .int R]) (H' := (S, C1)) ((zf0 1395).trans rfl) rfl ?_
  refine ze_arg (kn := 1) zA_1396 hi (by decide) hL ?_
  refine ze_cm (d := d) k4 ⟨hX, hM, hz⟩ k1 k2 k3 ((zf0 1401).trans rfl) rfl rfl rfl (Nat.le_succ 1) (by rw [ml_243]; rfl) (by omega) (fun S2 C2 k5 => ?_)
  refine zE_next (pc' := 1629) (ls' := zLl i) (st' := []) (H' := (S2, C2)) ((zf0 1404).trans rfl) (by show zx_n (if R = R then 1629 else 1404 + 3) (zLl i) [] (S2, C2) = _; rw [if_pos rfl]; rfl) ?_
  exact K S2 C2 _ k5
theorem law_37 (hI : zIn S C D) (hi : i + 6 ≤ L) (hL : L ≤ 3072) (hd : 64 ≤ d) (K : ∀ S2 C2 D2, zIn S2 C2 D2 → zE (some (L, xs)) (d + 1) 0 1629 (zLl i) [] (S2, C2) Q) : zE (some (L, xs)) (d + 1) 0 1409 (zLl i) [] (S, C) Q := by
  obtain ⟨hX, hM, hz, hW, hIX, hIM⟩ := id hI
  refine zE_next (pc' := 1410) (ls' := zLl i) (st' := [.ref 0]) (H' := (S, C)) ((zf0 1409).trans rfl) rfl ?_
  refine ze_arg (kn := 1) zA_1410 hi (by decide) hL ?_
  refine ze_arg (kn := 2) zA_1415 hi (by decide) hL ?_
  refine ze_cx (d := d) (cx_swap hX hM hW (xs (i + 1)) (xs (i + 2))) hI ((zf0 1420).trans rfl) rfl rfl rfl (by rw [ml_145]; rfl) (by omega) (fun R D' C1 k1 k2 k3 k4 => ?_)
  refine zE_next (pc' := 1424) (ls' := zLl i) (st' := [.ref 42, .int R]) (H' := (S, C1)) ((zf0 1423).trans rfl) rfl ?_
  refine ze_arg (kn := 1) zA_1424 hi (by decide) hL ?_
  refine ze_arg (kn := 2) zA_1429 hi (by decide) hL ?_
  refine ze_cm (d := d) k4 ⟨hX, hM, hz⟩ k1 k2 k3 ((zf0 1434).trans rfl) rfl rfl rfl (Nat.le_succ 1) (by rw [ml_245]; rfl) (by omega) (fun S2 C2 k5 => ?_)
  refine zE_next (pc' := 1629) (ls' := zLl i) (st' := []) (H' := (S2, C2)) ((zf0 1437).trans rfl) (by show zx_n (if R = R then 1629 else 1437 + 3) (zLl i) [] (S2, C2) = _; rw [if_pos rfl]; rfl) ?_
  exact K S2 C2 _ k5
theorem law_38 (hI : zIn S C D) (hi : i + 6 ≤ L) (hL : L ≤ 3072) (hd : 64 ≤ d) (K : ∀ S2 C2 D2, zIn S2 C2 D2 → zE (some (L, xs)) (d + 1) 0 1629 (zLl i) [] (S2, C2) Q) : zE (some (L, xs)) (d + 1) 0 1442 (zLl i) [] (S, C) Q := by
  obtain ⟨hX, hM, hz, hW, hIX, hIM⟩ := id hI
  refine zE_next (pc' := 1443) (ls' := zLl i) (st' := [.ref 0]) (H' := (S, C)) ((zf0 1442).trans rfl) rfl ?_
  refine ze_arg (kn := 1) zA_1443 hi (by decide) hL ?_
  refine ze_cx (d := d) (cx_pick hX hM hW (xs (i + 1))) hI ((zf0 1448).trans rfl) rfl rfl rfl (by rw [ml_146]; rfl) (by omega) (fun R D' C1 k1 k2 k3 k4 => ?_)
  refine zE_next (pc' := 1452) (ls' := zLl i) (st' := [.ref 42, .int R]) (H' := (S, C1)) ((zf0 1451).trans rfl) rfl ?_
  refine ze_arg (kn := 1) zA_1452 hi (by decide) hL ?_
  refine ze_cm (d := d) k4 ⟨hX, hM, hz⟩ k1 k2 k3 ((zf0 1457).trans rfl) rfl rfl rfl (Nat.le_succ 1) (by rw [ml_246]; rfl) (by omega) (fun S2 C2 k5 => ?_)
  refine zE_next (pc' := 1629) (ls' := zLl i) (st' := []) (H' := (S2, C2)) ((zf0 1460).trans rfl) (by show zx_n (if R = R then 1629 else 1460 + 3) (zLl i) [] (S2, C2) = _; rw [if_pos rfl]; rfl) ?_
  exact K S2 C2 _ k5
theorem law_39 (hI : zIn S C D) (hi : i + 6 ≤ L) (hL : L ≤ 3072) (hd : 64 ≤ d) (K : ∀ S2 C2 D2, zIn S2 C2 D2 → zE (some (L, xs)) (d + 1) 0 1629 (zLl i) [] (S2, C2) Q) : zE (some (L, xs)) (d + 1) 0 1465 (zLl i) [] (S, C) Q := by
  obtain ⟨hX, hM, hz, hW, hIX, hIM⟩ := id hI
  refine zE_next (pc' := 1466) (ls' := zLl i) (st' := [.ref 0]) (H' := (S, C)) ((zf0 1465).trans rfl) rfl ?_
  refine ze_arg (kn := 1) zA_1466 hi (by decide) hL ?_
  refine ze_cx (d := d) (cx_goes hX hM hW (xs (i + 1))) hI ((zf0 1471).trans rfl) rfl rfl rfl (by rw [ml_147]; rfl) (by omega) (fun R D' C1 k1 k2 k3 k4 => ?_)
  refine zE_next (pc' := 1475) (ls' := zLl i) (st' := [.ref 42, .int R]) (H' := (S, C1)) ((zf0 1474).trans rfl) rfl ?_
  refine ze_arg (kn := 1) zA_1475 hi (by decide) hL ?_
  refine ze_cm (d := d) k4 ⟨hX, hM, hz⟩ k1 k2 k3 ((zf0 1480).trans rfl) rfl rfl rfl (Nat.le_succ 1) (by rw [ml_247]; rfl) (by omega) (fun S2 C2 k5 => ?_)
  refine zE_next (pc' := 1629) (ls' := zLl i) (st' := []) (H' := (S2, C2)) ((zf0 1483).trans rfl) (by show zx_n (if R = R then 1629 else 1483 + 3) (zLl i) [] (S2, C2) = _; rw [if_pos rfl]; rfl) ?_
  exact K S2 C2 _ k5
theorem law_40 (hI : zIn S C D) (hi : i + 6 ≤ L) (hL : L ≤ 3072) (hd : 64 ≤ d) (K : ∀ S2 C2 D2, zIn S2 C2 D2 → zE (some (L, xs)) (d + 1) 0 1629 (zLl i) [] (S2, C2) Q) : zE (some (L, xs)) (d + 1) 0 1488 (zLl i) [] (S, C) Q := by
  obtain ⟨hX, hM, hz, hW, hIX, hIM⟩ := id hI
  refine zE_next (pc' := 1489) (ls' := zLl i) (st' := [.ref 0]) (H' := (S, C)) ((zf0 1488).trans rfl) rfl ?_
  refine ze_arg (kn := 1) zA_1489 hi (by decide) hL ?_
  refine ze_arg (kn := 2) zA_1494 hi (by decide) hL ?_
  refine ze_cx (d := d) (cx_books hX hM hW (xs (i + 1)) (xs (i + 2))) hI ((zf0 1499).trans rfl) rfl rfl rfl (by rw [ml_141]; rfl) (by omega) (fun R D' C1 k1 k2 k3 k4 => ?_)
  refine zE_next (pc' := 1503) (ls' := zLl i) (st' := [.ref 42, .int R]) (H' := (S, C1)) ((zf0 1502).trans rfl) rfl ?_
  refine ze_arg (kn := 1) zA_1503 hi (by decide) hL ?_
  refine ze_arg (kn := 2) zA_1508 hi (by decide) hL ?_
  refine ze_cm (d := d) k4 ⟨hX, hM, hz⟩ k1 k2 k3 ((zf0 1513).trans rfl) rfl rfl rfl (Nat.le_succ 1) (by rw [ml_248]; rfl) (by omega) (fun S2 C2 k5 => ?_)
  refine zE_next (pc' := 1629) (ls' := zLl i) (st' := []) (H' := (S2, C2)) ((zf0 1516).trans rfl) (by show zx_n (if R = R then 1629 else 1516 + 3) (zLl i) [] (S2, C2) = _; rw [if_pos rfl]; rfl) ?_
  exact K S2 C2 _ k5
theorem law_41 (hI : zIn S C D) (hi : i + 6 ≤ L) (hL : L ≤ 3072) (hd : 64 ≤ d) (K : ∀ S2 C2 D2, zIn S2 C2 D2 → zE (some (L, xs)) (d + 1) 0 1629 (zLl i) [] (S2, C2) Q) : zE (some (L, xs)) (d + 1) 0 1521 (zLl i) [] (S, C) Q := by
  obtain ⟨hX, hM, hz, hW, hIX, hIM⟩ := id hI
  refine zE_next (pc' := 1522) (ls' := zLl i) (st' := [.ref 0]) (H' := (S, C)) ((zf0 1521).trans rfl) rfl ?_
  refine ze_cx (d := d) (cx_again hX hM hW) hI ((zf0 1522).trans rfl) rfl rfl rfl (by rw [ml_148]; rfl) (by omega) (fun R D' C1 k1 k2 k3 k4 => ?_)
  refine zE_next (pc' := 1526) (ls' := zLl i) (st' := [.ref 42, .int R]) (H' := (S, C1)) ((zf0 1525).trans rfl) rfl ?_
  refine ze_cm (d := d) k4 ⟨hX, hM, hz⟩ k1 k2 k3 ((zf0 1526).trans rfl) rfl rfl rfl (Nat.le_succ 1) (by rw [ml_249]; rfl) (by omega) (fun S2 C2 k5 => ?_)
  refine zE_next (pc' := 1629) (ls' := zLl i) (st' := []) (H' := (S2, C2)) ((zf0 1529).trans rfl) (by show zx_n (if R = R then 1629 else 1529 + 3) (zLl i) [] (S2, C2) = _; rw [if_pos rfl]; rfl) ?_
  exact K S2 C2 _ k5
theorem law_42 (hI : zIn S C D) (hi : i + 6 ≤ L) (hL : L ≤ 3072) (hd : 64 ≤ d) (K : ∀ S2 C2 D2, zIn S2 C2 D2 → zE (some (L, xs)) (d + 1) 0 1629 (zLl i) [] (S2, C2) Q) : zE (some (L, xs)) (d + 1) 0 1534 (zLl i) [] (S, C) Q := by
  obtain ⟨hX, hM, hz, hW, hIX, hIM⟩ := id hI
  refine zE_next (pc' := 1535) (ls' := zLl i) (st' := [.ref 0]) (H' := (S, C)) ((zf0 1534).trans rfl) rfl ?_
  refine ze_arg (kn := 1) zA_1535 hi (by decide) hL ?_
  refine ze_cx (d := d) (cx_deal hX hM hW (xs (i + 1))) hI ((zf0 1540).trans rfl) rfl rfl rfl (by rw [ml_149]; rfl) (by omega) (fun R D' C1 k1 k2 k3 k4 => ?_)
  refine zE_next (pc' := 1544) (ls' := zLl i) (st' := [.ref 42, .int R]) (H' := (S, C1)) ((zf0 1543).trans rfl) rfl ?_
  refine ze_arg (kn := 1) zA_1544 hi (by decide) hL ?_
  refine ze_cm (d := d) k4 ⟨hX, hM, hz⟩ k1 k2 k3 ((zf0 1549).trans rfl) rfl rfl rfl (Nat.le_succ 1) (by rw [ml_250]; rfl) (by omega) (fun S2 C2 k5 => ?_)
  refine zE_next (pc' := 1629) (ls' := zLl i) (st' := []) (H' := (S2, C2)) ((zf0 1552).trans rfl) (by show zx_n (if R = R then 1629 else 1552 + 3) (zLl i) [] (S2, C2) = _; rw [if_pos rfl]; rfl) ?_
  exact K S2 C2 _ k5
theorem law_43 (hI : zIn S C D) (hi : i + 6 ≤ L) (hL : L ≤ 3072) (hd : 64 ≤ d) (K : ∀ S2 C2 D2, zIn S2 C2 D2 → zE (some (L, xs)) (d + 1) 0 1629 (zLl i) [] (S2, C2) Q) : zE (some (L, xs)) (d + 1) 0 1557 (zLl i) [] (S, C) Q := by
  obtain ⟨hX, hM, hz, hW, hIX, hIM⟩ := id hI
  refine zE_next (pc' := 1558) (ls' := zLl i) (st' := [.ref 0]) (H' := (S, C)) ((zf0 1557).trans rfl) rfl ?_
  refine ze_arg (kn := 1) zA_1558 hi (by decide) hL ?_
  refine ze_cx (d := d) (cx_seed hX hM hW (xs (i + 1))) hI ((zf0 1563).trans rfl) rfl rfl rfl (by rw [ml_151]; rfl) (by omega) (fun R D' C1 k1 k2 k3 k4 => ?_)
  refine zE_next (pc' := 1567) (ls' := zLl i) (st' := [.ref 42, .int R]) (H' := (S, C1)) ((zf0 1566).trans rfl) rfl ?_
  refine ze_arg (kn := 1) zA_1567 hi (by decide) hL ?_
  refine ze_cm (d := d) k4 ⟨hX, hM, hz⟩ k1 k2 k3 ((zf0 1572).trans rfl) rfl rfl rfl (Nat.le_succ 1) (by rw [ml_252]; rfl) (by omega) (fun S2 C2 k5 => ?_)
  refine zE_next (pc' := 1629) (ls' := zLl i) (st' := []) (H' := (S2, C2)) ((zf0 1575).trans rfl) (by show zx_n (if R = R then 1629 else 1575 + 3) (zLl i) [] (S2, C2) = _; rw [if_pos rfl]; rfl) ?_
  exact K S2 C2 _ k5
theorem law_44 (hI : zIn S C D) (hi : i + 6 ≤ L) (hL : L ≤ 3072) (hd : 64 ≤ d) (K : ∀ S2 C2 D2, zIn S2 C2 D2 → zE (some (L, xs)) (d + 1) 0 1629 (zLl i) [] (S2, C2) Q) : zE (some (L, xs)) (d + 1) 0 1580 (zLl i) [] (S, C) Q := by
  obtain ⟨hX, hM, hz, hW, hIX, hIM⟩ := id hI
  refine zE_next (pc' := 1581) (ls' := zLl i) (st' := [.ref 0]) (H' := (S, C)) ((zf0 1580).trans rfl) rfl ?_
  refine ze_cx (d := d) (cl_image hX hW (by decide)) hI ((zf0 1581).trans rfl) rfl rfl rfl (by rw [ml_152]; rfl) (by omega) (fun R D' C1 k1 k2 k3 k4 => ?_)
  refine zE_next (pc' := 1585) (ls' := zLl i) (st' := [.ref 42, .int R]) (H' := (S, C1)) ((zf0 1584).trans rfl) rfl ?_
  refine ze_cm (d := d) k4 ⟨hX, hM, hz⟩ k1 k2 k3 ((zf0 1585).trans rfl) rfl rfl rfl (Nat.le_succ 1) (by rw [ml_253]; rfl) (by omega) (fun S2 C2 k5 => ?_)
  refine zE_next (pc' := 1629) (ls' := zLl i) (st' := []) (H' := (S2, C2)) ((zf0 1588).trans rfl) (by show zx_n (if R = R then 1629 else 1588 + 3) (zLl i) [] (S2, C2) = _; rw [if_pos rfl]; rfl) ?_
  exact K S2 C2 _ k5
theorem law_45 (hI : zIn S C D) (hi : i + 6 ≤ L) (hL : L ≤ 3072) (hd : 64 ≤ d) (K : ∀ S2 C2 D2, zIn S2 C2 D2 → zE (some (L, xs)) (d + 1) 0 1629 (zLl i) [] (S2, C2) Q) : zE (some (L, xs)) (d + 1) 0 1593 (zLl i) [] (S, C) Q := by
  obtain ⟨hX, hM, hz, hW, hIX, hIM⟩ := id hI
  refine zE_next (pc' := 1594) (ls' := zLl i) (st' := [.ref 0]) (H' := (S, C)) ((zf0 1593).trans rfl) rfl ?_
  refine ze_cx (d := d) (cl_back hX hW) hI ((zf0 1594).trans rfl) rfl rfl rfl (by rw [ml_153]; rfl) (by omega) (fun R D' C1 k1 k2 k3 k4 => ?_)
  refine zE_next (pc' := 1598) (ls' := zLl i) (st' := [.ref 42, .int R]) (H' := (S, C1)) ((zf0 1597).trans rfl) rfl ?_
  refine ze_cm (d := d) k4 ⟨hX, hM, hz⟩ k1 k2 k3 ((zf0 1598).trans rfl) rfl rfl rfl (Nat.le_succ 1) (by rw [ml_254]; rfl) (by omega) (fun S2 C2 k5 => ?_)
  refine zE_next (pc' := 1629) (ls' := zLl i) (st' := []) (H' := (S2, C2)) ((zf0 1601).trans rfl) (by show zx_n (if R = R then 1629 else 1601 + 3) (zLl i) [] (S2, C2) = _; rw [if_pos rfl]; rfl) ?_
  exact K S2 C2 _ k5
theorem law_46 (hI : zIn S C D) (hi : i + 6 ≤ L) (hL : L ≤ 3072) (hd : 64 ≤ d) (K : ∀ S2 C2 D2, zIn S2 C2 D2 → zE (some (L, xs)) (d + 1) 0 1629 (zLl i) [] (S2, C2) Q) : zE (some (L, xs)) (d + 1) 0 1606 (zLl i) [] (S, C) Q := by
  obtain ⟨hX, hM, hz, hW, hIX, hIM⟩ := id hI
  refine zE_next (pc' := 1607) (ls' := zLl i) (st' := [.ref 0]) (H' := (S, C)) ((zf0 1606).trans rfl) rfl ?_
  refine ze_arg (kn := 1) zA_1607 hi (by decide) hL ?_
  refine ze_cx (d := d) (cx_status hX hM hW (xs (i + 1))) hI ((zf0 1612).trans rfl) rfl rfl rfl (by rw [ml_154]; rfl) (by omega) (fun R D' C1 k1 k2 k3 k4 => ?_)
  refine zE_next (pc' := 1616) (ls' := zLl i) (st' := [.ref 42, .int R]) (H' := (S, C1)) ((zf0 1615).trans rfl) rfl ?_
  refine ze_arg (kn := 1) zA_1616 hi (by decide) hL ?_
  refine ze_cm (d := d) k4 ⟨hX, hM, hz⟩ k1 k2 k3 ((zf0 1621).trans rfl) rfl rfl rfl (Nat.le_succ 1) (by rw [ml_255]; rfl) (by omega) (fun S2 C2 k5 => ?_)
  refine zE_next (pc' := 1629) (ls' := zLl i) (st' := []) (H' := (S2, C2)) ((zf0 1624).trans rfl) (by show zx_n (if R = R then 1629 else 1624 + 3) (zLl i) [] (S2, C2) = _; rw [if_pos rfl]; rfl) ?_
  exact K S2 C2 _ k5
end
