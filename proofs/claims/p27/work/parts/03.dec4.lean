theorem dL_told_398 : decode cL_told 398 = .ok (.bipush (-9), 2) := by decide +kernel
theorem dL_told_400 : decode cL_told 400 = .ok (.if_icmp .ne 14, 3) := by decide +kernel
theorem dL_told_403 : decode cL_told 403 = .ok (.aload_n 0, 1) := by decide +kernel
theorem dL_told_404 : decode cL_told 404 = .ok (.iload 11, 2) := by decide +kernel
theorem dL_told_406 : decode cL_told 406 = .ok (.bipush 6, 2) := by decide +kernel
theorem dL_told_408 : decode cL_told 408 = .ok (.invokevirtual 40, 3) := by decide +kernel
theorem dL_told_411 : decode cL_told 411 = .ok (.ifCond .eq 319, 3) := by decide +kernel
theorem dL_told_414 : decode cL_told 414 = .ok (.iconst 0, 1) := by decide +kernel
theorem dL_told_415 : decode cL_told 415 = .ok (.ireturn, 1) := by decide +kernel
theorem dL_told_416 : decode cL_told 416 = .ok (.aload_n 2, 1) := by decide +kernel
theorem dL_told_417 : decode cL_told 417 = .ok (.iload 11, 2) := by decide +kernel
theorem dL_told_419 : decode cL_told 419 = .ok (.iaload, 1) := by decide +kernel
theorem dL_told_420 : decode cL_told 420 = .ok (.istore 12, 2) := by decide +kernel
theorem dL_told_422 : decode cL_told 422 = .ok (.iconst 0, 1) := by decide +kernel
theorem dL_told_423 : decode cL_told 423 = .ok (.istore 13, 2) := by decide +kernel
theorem dL_told_425 : decode cL_told 425 = .ok (.iload 13, 2) := by decide +kernel
theorem dL_told_427 : decode cL_told 427 = .ok (.iload_n 1, 1) := by decide +kernel
theorem dL_told_428 : decode cL_told 428 = .ok (.if_icmp .ge 48, 3) := by decide +kernel
theorem dL_told_431 : decode cL_told 431 = .ok (.iconst 0, 1) := by decide +kernel
theorem dL_told_432 : decode cL_told 432 = .ok (.istore 14, 2) := by decide +kernel
theorem dL_told_434 : decode cL_told 434 = .ok (.iload 14, 2) := by decide +kernel
theorem dL_told_436 : decode cL_told 436 = .ok (.iload_n 1, 1) := by decide +kernel
theorem dL_told_437 : decode cL_told 437 = .ok (.if_icmp .ge 33, 3) := by decide +kernel
theorem dL_told_440 : decode cL_told 440 = .ok (.iload 12, 2) := by decide +kernel
theorem dL_told_442 : decode cL_told 442 = .ok (.iload 12, 2) := by decide +kernel
theorem dL_told_444 : decode cL_told 444 = .ok (.iload 14, 2) := by decide +kernel
theorem dL_told_446 : decode cL_told 446 = .ok (.ishr, 1) := by decide +kernel
theorem dL_told_447 : decode cL_told 447 = .ok (.iconst 1, 1) := by decide +kernel
theorem dL_told_448 : decode cL_told 448 = .ok (.iand, 1) := by decide +kernel
theorem dL_told_449 : decode cL_told 449 = .ok (.iconst 1, 1) := by decide +kernel
theorem dL_told_450 : decode cL_told 450 = .ok (.if_icmp .ne 10, 3) := by decide +kernel
theorem dL_told_453 : decode cL_told 453 = .ok (.aload_n 2, 1) := by decide +kernel
theorem dL_told_454 : decode cL_told 454 = .ok (.iload 14, 2) := by decide +kernel
theorem dL_told_456 : decode cL_told 456 = .ok (.iaload, 1) := by decide +kernel
theorem dL_told_457 : decode cL_told 457 = .ok (.goto 4, 3) := by decide +kernel
theorem dL_told_460 : decode cL_told 460 = .ok (.iconst 0, 1) := by decide +kernel
theorem dL_told_461 : decode cL_told 461 = .ok (.ior, 1) := by decide +kernel
theorem dL_told_462 : decode cL_told 462 = .ok (.istore 12, 2) := by decide +kernel
theorem dL_told_464 : decode cL_told 464 = .ok (.iinc 14 1, 3) := by decide +kernel
theorem dL_told_467 : decode cL_told 467 = .ok (.goto (-33), 3) := by decide +kernel
theorem dL_told_470 : decode cL_told 470 = .ok (.iinc 13 1, 3) := by decide +kernel
theorem dL_told_473 : decode cL_told 473 = .ok (.goto (-48), 3) := by decide +kernel
theorem dL_told_476 : decode cL_told 476 = .ok (.iconst 0, 1) := by decide +kernel
theorem dL_told_477 : decode cL_told 477 = .ok (.istore 13, 2) := by decide +kernel
theorem dL_told_479 : decode cL_told 479 = .ok (.iconst 0, 1) := by decide +kernel
theorem dL_told_480 : decode cL_told 480 = .ok (.istore 14, 2) := by decide +kernel
theorem dL_told_482 : decode cL_told 482 = .ok (.iload 14, 2) := by decide +kernel
theorem dL_told_484 : decode cL_told 484 = .ok (.iload_n 1, 1) := by decide +kernel
theorem dL_told_485 : decode cL_told 485 = .ok (.if_icmp .ge 47, 3) := by decide +kernel
theorem dL_told_488 : decode cL_told 488 = .ok (.iload 13, 2) := by decide +kernel
theorem dL_told_490 : decode cL_told 490 = .ok (.iload 12, 2) := by decide +kernel
theorem dL_told_492 : decode cL_told 492 = .ok (.iload 14, 2) := by decide +kernel
theorem dL_told_494 : decode cL_told 494 = .ok (.ishr, 1) := by decide +kernel
theorem dL_told_495 : decode cL_told 495 = .ok (.iconst 1, 1) := by decide +kernel
theorem dL_told_496 : decode cL_told 496 = .ok (.iand, 1) := by decide +kernel
theorem dL_told_497 : decode cL_told 497 = .ok (.iconst 1, 1) := by decide +kernel
theorem dL_told_498 : decode cL_told 498 = .ok (.if_icmp .ne 24, 3) := by decide +kernel
theorem dL_told_501 : decode cL_told 501 = .ok (.aload_n 0, 1) := by decide +kernel
theorem dL_told_502 : decode cL_told 502 = .ok (.iload 14, 2) := by decide +kernel
theorem dL_told_504 : decode cL_told 504 = .ok (.iconst 3, 1) := by decide +kernel
theorem dL_told_505 : decode cL_told 505 = .ok (.invokevirtual 40, 3) := by decide +kernel
theorem dL_told_508 : decode cL_told 508 = .ok (.aload_n 0, 1) := by decide +kernel
theorem dL_told_509 : decode cL_told 509 = .ok (.iload 11, 2) := by decide +kernel
theorem dL_told_511 : decode cL_told 511 = .ok (.iconst 3, 1) := by decide +kernel
theorem dL_told_512 : decode cL_told 512 = .ok (.invokevirtual 40, 3) := by decide +kernel
theorem dL_told_515 : decode cL_told 515 = .ok (.if_icmp .le 7, 3) := by decide +kernel
theorem dL_told_518 : decode cL_told 518 = .ok (.iconst 1, 1) := by decide +kernel
theorem dL_told_519 : decode cL_told 519 = .ok (.goto 4, 3) := by decide +kernel
theorem dL_told_522 : decode cL_told 522 = .ok (.iconst 0, 1) := by decide +kernel
theorem dL_told_523 : decode cL_told 523 = .ok (.iadd, 1) := by decide +kernel
theorem dL_told_524 : decode cL_told 524 = .ok (.istore 13, 2) := by decide +kernel
theorem dL_told_526 : decode cL_told 526 = .ok (.iinc 14 1, 3) := by decide +kernel
theorem dL_told_529 : decode cL_told 529 = .ok (.goto (-47), 3) := by decide +kernel
theorem dL_told_532 : decode cL_told 532 = .ok (.iinc 9 1, 3) := by decide +kernel
theorem dL_told_535 : decode cL_told 535 = .ok (.iload 6, 2) := by decide +kernel
theorem dL_told_537 : decode cL_told 537 = .ok (.iload 13, 2) := by decide +kernel
theorem dL_told_539 : decode cL_told 539 = .ok (.iadd, 1) := by decide +kernel
theorem dL_told_540 : decode cL_told 540 = .ok (.istore 6, 2) := by decide +kernel
theorem dL_told_542 : decode cL_told 542 = .ok (.iload 7, 2) := by decide +kernel
theorem dL_told_544 : decode cL_told 544 = .ok (.iload 12, 2) := by decide +kernel
theorem dL_told_546 : decode cL_told 546 = .ok (.invokestatic 63, 3) := by decide +kernel
theorem dL_told_549 : decode cL_told 549 = .ok (.iadd, 1) := by decide +kernel
theorem dL_told_550 : decode cL_told 550 = .ok (.istore 7, 2) := by decide +kernel
theorem dL_told_552 : decode cL_told 552 = .ok (.iload 8, 2) := by decide +kernel
theorem dL_told_554 : decode cL_told 554 = .ok (.aload_n 2, 1) := by decide +kernel
theorem dL_told_555 : decode cL_told 555 = .ok (.iload 11, 2) := by decide +kernel
theorem dL_told_557 : decode cL_told 557 = .ok (.iaload, 1) := by decide +kernel
theorem dL_told_558 : decode cL_told 558 = .ok (.ifCond .ne 7, 3) := by decide +kernel
theorem dL_told_561 : decode cL_told 561 = .ok (.iconst 1, 1) := by decide +kernel
theorem dL_told_562 : decode cL_told 562 = .ok (.goto 4, 3) := by decide +kernel
theorem dL_told_565 : decode cL_told 565 = .ok (.iconst 0, 1) := by decide +kernel
theorem dL_told_566 : decode cL_told 566 = .ok (.iadd, 1) := by decide +kernel
theorem dL_told_567 : decode cL_told 567 = .ok (.istore 8, 2) := by decide +kernel
theorem dL_told_569 : decode cL_told 569 = .ok (.iload 4, 2) := by decide +kernel
theorem dL_told_571 : decode cL_told 571 = .ok (.aload_n 0, 1) := by decide +kernel
theorem dL_told_572 : decode cL_told 572 = .ok (.iload 11, 2) := by decide +kernel
theorem dL_told_574 : decode cL_told 574 = .ok (.iconst 0, 1) := by decide +kernel
theorem dL_told_575 : decode cL_told 575 = .ok (.invokevirtual 40, 3) := by decide +kernel
theorem dL_told_578 : decode cL_told 578 = .ok (.aload_n 0, 1) := by decide +kernel
theorem dL_told_579 : decode cL_told 579 = .ok (.iload 11, 2) := by decide +kernel
theorem dL_told_581 : decode cL_told 581 = .ok (.iconst 1, 1) := by decide +kernel
theorem dL_told_582 : decode cL_told 582 = .ok (.invokevirtual 40, 3) := by decide +kernel
theorem dL_told_585 : decode cL_told 585 = .ok (.imul, 1) := by decide +kernel
theorem dL_told_586 : decode cL_told 586 = .ok (.aload_n 0, 1) := by decide +kernel
theorem dL_told_587 : decode cL_told 587 = .ok (.iload 11, 2) := by decide +kernel
theorem dL_told_589 : decode cL_told 589 = .ok (.invokestatic 55, 3) := by decide +kernel
theorem dL_told_592 : decode cL_told 592 = .ok (.imul, 1) := by decide +kernel
theorem dL_told_593 : decode cL_told 593 = .ok (.iadd, 1) := by decide +kernel
theorem dL_told_594 : decode cL_told 594 = .ok (.istore 4, 2) := by decide +kernel
theorem dL_told_596 : decode cL_told 596 = .ok (.iload 10, 2) := by decide +kernel
theorem dL_told_598 : decode cL_told 598 = .ok (.aload_n 0, 1) := by decide +kernel
theorem dL_told_599 : decode cL_told 599 = .ok (.iload 11, 2) := by decide +kernel
theorem dL_told_601 : decode cL_told 601 = .ok (.bipush 15, 2) := by decide +kernel
theorem dL_told_603 : decode cL_told 603 = .ok (.invokevirtual 40, 3) := by decide +kernel
theorem dL_told_606 : decode cL_told 606 = .ok (.iadd, 1) := by decide +kernel
theorem dL_told_607 : decode cL_told 607 = .ok (.istore 10, 2) := by decide +kernel
theorem dL_told_609 : decode cL_told 609 = .ok (.aload_n 0, 1) := by decide +kernel
theorem dL_told_610 : decode cL_told 610 = .ok (.iload 11, 2) := by decide +kernel
theorem dL_told_612 : decode cL_told 612 = .ok (.bipush 10, 2) := by decide +kernel
theorem dL_told_614 : decode cL_told 614 = .ok (.invokevirtual 40, 3) := by decide +kernel
theorem dL_told_617 : decode cL_told 617 = .ok (.aload_n 0, 1) := by decide +kernel
theorem dL_told_618 : decode cL_told 618 = .ok (.iload 11, 2) := by decide +kernel
theorem dL_told_620 : decode cL_told 620 = .ok (.bipush 9, 2) := by decide +kernel
theorem dL_told_622 : decode cL_told 622 = .ok (.invokevirtual 40, 3) := by decide +kernel
theorem dL_told_625 : decode cL_told 625 = .ok (.aload_n 0, 1) := by decide +kernel
theorem dL_told_626 : decode cL_told 626 = .ok (.iload 11, 2) := by decide +kernel
theorem dL_told_628 : decode cL_told 628 = .ok (.invokestatic 55, 3) := by decide +kernel
theorem dL_told_631 : decode cL_told 631 = .ok (.iadd, 1) := by decide +kernel
theorem dL_told_632 : decode cL_told 632 = .ok (.if_icmp .ne 96, 3) := by decide +kernel
theorem dL_told_635 : decode cL_told 635 = .ok (.aload_n 0, 1) := by decide +kernel
theorem dL_told_636 : decode cL_told 636 = .ok (.iload 11, 2) := by decide +kernel
theorem dL_told_638 : decode cL_told 638 = .ok (.bipush 10, 2) := by decide +kernel
theorem dL_told_640 : decode cL_told 640 = .ok (.invokevirtual 40, 3) := by decide +kernel
theorem dL_told_643 : decode cL_told 643 = .ok (.aload_n 0, 1) := by decide +kernel
theorem dL_told_644 : decode cL_told 644 = .ok (.iconst 2, 1) := by decide +kernel
theorem dL_told_645 : decode cL_told 645 = .ok (.invokevirtual 37, 3) := by decide +kernel
theorem dL_told_648 : decode cL_told 648 = .ok (.if_icmp .gt 80, 3) := by decide +kernel
theorem dL_told_651 : decode cL_told 651 = .ok (.aload_n 0, 1) := by decide +kernel
theorem dL_told_652 : decode cL_told 652 = .ok (.iload 11, 2) := by decide +kernel
theorem dL_told_654 : decode cL_told 654 = .ok (.bipush 14, 2) := by decide +kernel
theorem dL_told_656 : decode cL_told 656 = .ok (.invokevirtual 40, 3) := by decide +kernel
theorem dL_told_659 : decode cL_told 659 = .ok (.iload 12, 2) := by decide +kernel
theorem dL_told_661 : decode cL_told 661 = .ok (.if_icmp .ne 67, 3) := by decide +kernel
theorem dL_told_664 : decode cL_told 664 = .ok (.aload_n 0, 1) := by decide +kernel
theorem dL_told_665 : decode cL_told 665 = .ok (.iload 11, 2) := by decide +kernel
theorem dL_told_667 : decode cL_told 667 = .ok (.bipush 11, 2) := by decide +kernel
theorem dL_told_669 : decode cL_told 669 = .ok (.invokevirtual 40, 3) := by decide +kernel
theorem dL_told_672 : decode cL_told 672 = .ok (.iload 12, 2) := by decide +kernel
theorem dL_told_674 : decode cL_told 674 = .ok (.invokestatic 63, 3) := by decide +kernel
theorem dL_told_677 : decode cL_told 677 = .ok (.if_icmp .ne 51, 3) := by decide +kernel
theorem dL_told_680 : decode cL_told 680 = .ok (.aload_n 0, 1) := by decide +kernel
theorem dL_told_681 : decode cL_told 681 = .ok (.iload 11, 2) := by decide +kernel
theorem dL_told_683 : decode cL_told 683 = .ok (.bipush 12, 2) := by decide +kernel
theorem dL_told_685 : decode cL_told 685 = .ok (.invokevirtual 40, 3) := by decide +kernel
theorem dL_told_688 : decode cL_told 688 = .ok (.iload 13, 2) := by decide +kernel
theorem dL_told_690 : decode cL_told 690 = .ok (.if_icmp .ne 38, 3) := by decide +kernel
theorem dL_told_693 : decode cL_told 693 = .ok (.aload_n 0, 1) := by decide +kernel
theorem dL_told_694 : decode cL_told 694 = .ok (.iload 11, 2) := by decide +kernel
theorem dL_told_696 : decode cL_told 696 = .ok (.bipush 13, 2) := by decide +kernel
theorem dL_told_698 : decode cL_told 698 = .ok (.invokevirtual 40, 3) := by decide +kernel
theorem dL_told_701 : decode cL_told 701 = .ok (.aload_n 2, 1) := by decide +kernel
theorem dL_told_702 : decode cL_told 702 = .ok (.iload 11, 2) := by decide +kernel
theorem dL_told_704 : decode cL_told 704 = .ok (.iaload, 1) := by decide +kernel
theorem dL_told_705 : decode cL_told 705 = .ok (.ifCond .ne 7, 3) := by decide +kernel
theorem dL_told_708 : decode cL_told 708 = .ok (.iconst 1, 1) := by decide +kernel
theorem dL_told_709 : decode cL_told 709 = .ok (.goto 4, 3) := by decide +kernel
theorem dL_told_712 : decode cL_told 712 = .ok (.iconst 0, 1) := by decide +kernel
theorem dL_told_713 : decode cL_told 713 = .ok (.if_icmp .ne 15, 3) := by decide +kernel
theorem dL_told_716 : decode cL_told 716 = .ok (.aload_n 0, 1) := by decide +kernel
theorem dL_told_717 : decode cL_told 717 = .ok (.iload 11, 2) := by decide +kernel
theorem dL_told_719 : decode cL_told 719 = .ok (.bipush 15, 2) := by decide +kernel
theorem dL_told_721 : decode cL_told 721 = .ok (.invokevirtual 40, 3) := by decide +kernel
theorem dL_told_724 : decode cL_told 724 = .ok (.iconst 1, 1) := by decide +kernel
theorem dL_told_725 : decode cL_told 725 = .ok (.if_icmp .ge 5, 3) := by decide +kernel
theorem dL_told_728 : decode cL_told 728 = .ok (.iconst 0, 1) := by decide +kernel
theorem dL_told_729 : decode cL_told 729 = .ok (.ireturn, 1) := by decide +kernel
theorem dL_told_730 : decode cL_told 730 = .ok (.iinc 11 1, 3) := by decide +kernel
theorem dL_told_733 : decode cL_told 733 = .ok (.goto (-359), 3) := by decide +kernel
theorem dL_told_736 : decode cL_told 736 = .ok (.aload_n 0, 1) := by decide +kernel
theorem dL_told_737 : decode cL_told 737 = .ok (.iconst 0, 1) := by decide +kernel
theorem dL_told_738 : decode cL_told 738 = .ok (.invokevirtual 37, 3) := by decide +kernel
theorem dL_told_741 : decode cL_told 741 = .ok (.aload_n 0, 1) := by decide +kernel
theorem dL_told_742 : decode cL_told 742 = .ok (.iconst 1, 1) := by decide +kernel
theorem dL_told_743 : decode cL_told 743 = .ok (.invokevirtual 37, 3) := by decide +kernel
theorem dL_told_746 : decode cL_told 746 = .ok (.imul, 1) := by decide +kernel
theorem dL_told_747 : decode cL_told 747 = .ok (.iload_n 3, 1) := by decide +kernel
theorem dL_told_748 : decode cL_told 748 = .ok (.imul, 1) := by decide +kernel
theorem dL_told_749 : decode cL_told 749 = .ok (.iload 4, 2) := by decide +kernel
theorem dL_told_751 : decode cL_told 751 = .ok (.isub, 1) := by decide +kernel
theorem dL_told_752 : decode cL_told 752 = .ok (.istore 11, 2) := by decide +kernel
theorem dL_told_754 : decode cL_told 754 = .ok (.iload 10, 2) := by decide +kernel
theorem dL_told_756 : decode cL_told 756 = .ok (.iload 5, 2) := by decide +kernel
theorem dL_told_758 : decode cL_told 758 = .ok (.if_icmp .ne 76, 3) := by decide +kernel
theorem dL_told_761 : decode cL_told 761 = .ok (.aload_n 0, 1) := by decide +kernel
theorem dL_told_762 : decode cL_told 762 = .ok (.iconst 5, 1) := by decide +kernel
theorem dL_told_763 : decode cL_told 763 = .ok (.invokevirtual 37, 3) := by decide +kernel
theorem dL_told_766 : decode cL_told 766 = .ok (.iload 9, 2) := by decide +kernel
theorem dL_told_768 : decode cL_told 768 = .ok (.if_icmp .ne 66, 3) := by decide +kernel
theorem dL_told_771 : decode cL_told 771 = .ok (.aload_n 0, 1) := by decide +kernel
theorem dL_told_772 : decode cL_told 772 = .ok (.bipush 6, 2) := by decide +kernel
theorem dL_told_774 : decode cL_told 774 = .ok (.invokevirtual 37, 3) := by decide +kernel
theorem dL_told_777 : decode cL_told 777 = .ok (.iload 8, 2) := by decide +kernel
theorem dL_told_779 : decode cL_told 779 = .ok (.if_icmp .ne 55, 3) := by decide +kernel
theorem dL_told_782 : decode cL_told 782 = .ok (.aload_n 0, 1) := by decide +kernel
theorem dL_told_783 : decode cL_told 783 = .ok (.bipush 7, 2) := by decide +kernel
theorem dL_told_785 : decode cL_told 785 = .ok (.invokevirtual 37, 3) := by decide +kernel
theorem dL_told_788 : decode cL_told 788 = .ok (.iload_n 3, 1) := by decide +kernel
theorem dL_told_789 : decode cL_told 789 = .ok (.if_icmp .ne 45, 3) := by decide +kernel
theorem dL_told_792 : decode cL_told 792 = .ok (.aload_n 0, 1) := by decide +kernel
theorem dL_told_793 : decode cL_told 793 = .ok (.bipush 8, 2) := by decide +kernel
theorem dL_told_795 : decode cL_told 795 = .ok (.invokevirtual 37, 3) := by decide +kernel
theorem dL_told_798 : decode cL_told 798 = .ok (.iload 11, 2) := by decide +kernel
theorem dL_told_800 : decode cL_told 800 = .ok (.if_icmp .ne 34, 3) := by decide +kernel
theorem dL_told_803 : decode cL_told 803 = .ok (.iload 11, 2) := by decide +kernel
theorem dL_told_805 : decode cL_told 805 = .ok (.ifCond .lt 29, 3) := by decide +kernel
theorem dL_told_808 : decode cL_told 808 = .ok (.aload_n 0, 1) := by decide +kernel
theorem dL_told_809 : decode cL_told 809 = .ok (.bipush 9, 2) := by decide +kernel
theorem dL_told_811 : decode cL_told 811 = .ok (.invokevirtual 37, 3) := by decide +kernel
theorem dL_told_814 : decode cL_told 814 = .ok (.iload 6, 2) := by decide +kernel
theorem dL_told_816 : decode cL_told 816 = .ok (.if_icmp .ne 18, 3) := by decide +kernel
theorem dL_told_819 : decode cL_told 819 = .ok (.aload_n 0, 1) := by decide +kernel
theorem dL_told_820 : decode cL_told 820 = .ok (.bipush 10, 2) := by decide +kernel
theorem dL_told_822 : decode cL_told 822 = .ok (.invokevirtual 37, 3) := by decide +kernel
theorem dL_told_825 : decode cL_told 825 = .ok (.iload 7, 2) := by decide +kernel
theorem dL_told_827 : decode cL_told 827 = .ok (.if_icmp .ne 7, 3) := by decide +kernel
theorem dL_told_830 : decode cL_told 830 = .ok (.iconst 1, 1) := by decide +kernel
theorem dL_told_831 : decode cL_told 831 = .ok (.goto 4, 3) := by decide +kernel
theorem dL_told_834 : decode cL_told 834 = .ok (.iconst 0, 1) := by decide +kernel
theorem dL_told_835 : decode cL_told 835 = .ok (.ireturn, 1) := by decide +kernel
theorem dL_best_0 : decode cL_best 0 = .ok (.iconst (-1), 1) := by decide +kernel
theorem dL_best_1 : decode cL_best 1 = .ok (.istore_n 3, 1) := by decide +kernel
theorem dL_best_2 : decode cL_best 2 = .ok (.iconst 0, 1) := by decide +kernel
theorem dL_best_3 : decode cL_best 3 = .ok (.istore 4, 2) := by decide +kernel
theorem dL_best_5 : decode cL_best 5 = .ok (.iload 4, 2) := by decide +kernel
theorem dL_best_7 : decode cL_best 7 = .ok (.aload_n 0, 1) := by decide +kernel
theorem dL_best_8 : decode cL_best 8 = .ok (.iconst 1, 1) := by decide +kernel
theorem dL_best_9 : decode cL_best 9 = .ok (.invokevirtual 37, 3) := by decide +kernel
theorem dL_best_12 : decode cL_best 12 = .ok (.if_icmp .ge 164, 3) := by decide +kernel
theorem dL_best_15 : decode cL_best 15 = .ok (.iconst 0, 1) := by decide +kernel
theorem dL_best_16 : decode cL_best 16 = .ok (.istore 5, 2) := by decide +kernel
theorem dL_best_18 : decode cL_best 18 = .ok (.iload 5, 2) := by decide +kernel
theorem dL_best_20 : decode cL_best 20 = .ok (.aload_n 0, 1) := by decide +kernel
theorem dL_best_21 : decode cL_best 21 = .ok (.iconst 0, 1) := by decide +kernel
theorem dL_best_22 : decode cL_best 22 = .ok (.invokevirtual 37, 3) := by decide +kernel
theorem dL_best_25 : decode cL_best 25 = .ok (.if_icmp .ge 145, 3) := by decide +kernel
theorem dL_best_28 : decode cL_best 28 = .ok (.iconst 0, 1) := by decide +kernel
theorem dL_best_29 : decode cL_best 29 = .ok (.istore 6, 2) := by decide +kernel
theorem dL_best_31 : decode cL_best 31 = .ok (.iload 6, 2) := by decide +kernel
theorem dL_best_33 : decode cL_best 33 = .ok (.aload_n 0, 1) := by decide +kernel
theorem dL_best_34 : decode cL_best 34 = .ok (.iload_n 1, 1) := by decide +kernel
theorem dL_best_35 : decode cL_best 35 = .ok (.iconst 0, 1) := by decide +kernel
theorem dL_best_36 : decode cL_best 36 = .ok (.invokevirtual 40, 3) := by decide +kernel
theorem dL_best_39 : decode cL_best 39 = .ok (.aload_n 0, 1) := by decide +kernel
theorem dL_best_40 : decode cL_best 40 = .ok (.iload_n 1, 1) := by decide +kernel
theorem dL_best_41 : decode cL_best 41 = .ok (.iconst 1, 1) := by decide +kernel
theorem dL_best_42 : decode cL_best 42 = .ok (.invokevirtual 40, 3) := by decide +kernel
theorem dL_best_45 : decode cL_best 45 = .ok (.if_icmp .ne 7, 3) := by decide +kernel
theorem dL_best_48 : decode cL_best 48 = .ok (.iconst 1, 1) := by decide +kernel
theorem dL_best_49 : decode cL_best 49 = .ok (.goto 4, 3) := by decide +kernel
theorem dL_best_52 : decode cL_best 52 = .ok (.iconst 2, 1) := by decide +kernel
theorem dL_best_53 : decode cL_best 53 = .ok (.if_icmp .ge 111, 3) := by decide +kernel
theorem dL_best_56 : decode cL_best 56 = .ok (.aload_n 0, 1) := by decide +kernel
theorem dL_best_57 : decode cL_best 57 = .ok (.iload_n 1, 1) := by decide +kernel
theorem dL_best_58 : decode cL_best 58 = .ok (.iload 5, 2) := by decide +kernel
theorem dL_best_60 : decode cL_best 60 = .ok (.iload 4, 2) := by decide +kernel
theorem dL_best_62 : decode cL_best 62 = .ok (.iload 6, 2) := by decide +kernel
theorem dL_best_64 : decode cL_best 64 = .ok (.iconst 1, 1) := by decide +kernel
theorem dL_best_65 : decode cL_best 65 = .ok (.if_icmp .ne 7, 3) := by decide +kernel
theorem dL_best_68 : decode cL_best 68 = .ok (.iconst 1, 1) := by decide +kernel
theorem dL_best_69 : decode cL_best 69 = .ok (.goto 4, 3) := by decide +kernel
theorem dL_best_72 : decode cL_best 72 = .ok (.iconst 0, 1) := by decide +kernel
theorem dL_best_73 : decode cL_best 73 = .ok (.invokestatic 66, 3) := by decide +kernel
theorem dL_best_76 : decode cL_best 76 = .ok (.ifCond .eq 82, 3) := by decide +kernel
theorem dL_best_79 : decode cL_best 79 = .ok (.aload_n 0, 1) := by decide +kernel
theorem dL_best_80 : decode cL_best 80 = .ok (.iload_n 1, 1) := by decide +kernel
theorem dL_best_81 : decode cL_best 81 = .ok (.iload 5, 2) := by decide +kernel
theorem dL_best_83 : decode cL_best 83 = .ok (.iload 4, 2) := by decide +kernel
theorem dL_best_85 : decode cL_best 85 = .ok (.iload 6, 2) := by decide +kernel
theorem dL_best_87 : decode cL_best 87 = .ok (.iconst 1, 1) := by decide +kernel
theorem dL_best_88 : decode cL_best 88 = .ok (.if_icmp .ne 7, 3) := by decide +kernel
theorem dL_best_91 : decode cL_best 91 = .ok (.iconst 1, 1) := by decide +kernel
theorem dL_best_92 : decode cL_best 92 = .ok (.goto 4, 3) := by decide +kernel
theorem dL_best_95 : decode cL_best 95 = .ok (.iconst 0, 1) := by decide +kernel
theorem dL_best_96 : decode cL_best 96 = .ok (.invokestatic 51, 3) := by decide +kernel
theorem dL_best_99 : decode cL_best 99 = .ok (.sipush 1000, 3) := by decide +kernel
theorem dL_best_102 : decode cL_best 102 = .ok (.irem, 1) := by decide +kernel
theorem dL_best_103 : decode cL_best 103 = .ok (.aload_n 0, 1) := by decide +kernel
theorem dL_best_104 : decode cL_best 104 = .ok (.iload_n 1, 1) := by decide +kernel
theorem dL_best_105 : decode cL_best 105 = .ok (.invokestatic 55, 3) := by decide +kernel
theorem dL_best_108 : decode cL_best 108 = .ok (.iadd, 1) := by decide +kernel
theorem dL_best_109 : decode cL_best 109 = .ok (.istore 7, 2) := by decide +kernel
theorem dL_best_111 : decode cL_best 111 = .ok (.aload_n 2, 1) := by decide +kernel
theorem dL_best_112 : decode cL_best 112 = .ok (.iconst 0, 1) := by decide +kernel
theorem dL_best_113 : decode cL_best 113 = .ok (.dup2, 1) := by decide +kernel
theorem dL_best_114 : decode cL_best 114 = .ok (.iaload, 1) := by decide +kernel
theorem dL_best_115 : decode cL_best 115 = .ok (.iconst 1, 1) := by decide +kernel
theorem dL_best_116 : decode cL_best 116 = .ok (.iadd, 1) := by decide +kernel
theorem dL_best_117 : decode cL_best 117 = .ok (.iastore, 1) := by decide +kernel
theorem dL_best_118 : decode cL_best 118 = .ok (.iload_n 3, 1) := by decide +kernel
theorem dL_best_119 : decode cL_best 119 = .ok (.ifCond .lt 13, 3) := by decide +kernel
theorem dL_best_122 : decode cL_best 122 = .ok (.iload 7, 2) := by decide +kernel
theorem dL_best_124 : decode cL_best 124 = .ok (.iload_n 3, 1) := by decide +kernel
theorem dL_best_125 : decode cL_best 125 = .ok (.sipush 1000, 3) := by decide +kernel
theorem dL_best_128 : decode cL_best 128 = .ok (.idiv, 1) := by decide +kernel
theorem dL_best_129 : decode cL_best 129 = .ok (.if_icmp .ge 27, 3) := by decide +kernel
theorem dL_best_132 : decode cL_best 132 = .ok (.sipush 1000, 3) := by decide +kernel
theorem dL_best_135 : decode cL_best 135 = .ok (.iload 7, 2) := by decide +kernel
theorem dL_best_137 : decode cL_best 137 = .ok (.imul, 1) := by decide +kernel
theorem dL_best_138 : decode cL_best 138 = .ok (.bipush 100, 2) := by decide +kernel
theorem dL_best_140 : decode cL_best 140 = .ok (.iload 4, 2) := by decide +kernel
theorem dL_best_142 : decode cL_best 142 = .ok (.imul, 1) := by decide +kernel
theorem dL_best_143 : decode cL_best 143 = .ok (.iadd, 1) := by decide +kernel
theorem dL_best_144 : decode cL_best 144 = .ok (.bipush 10, 2) := by decide +kernel
theorem dL_best_146 : decode cL_best 146 = .ok (.iload 5, 2) := by decide +kernel
theorem dL_best_148 : decode cL_best 148 = .ok (.imul, 1) := by decide +kernel
theorem dL_best_149 : decode cL_best 149 = .ok (.iadd, 1) := by decide +kernel
theorem dL_best_150 : decode cL_best 150 = .ok (.iload 6, 2) := by decide +kernel
theorem dL_best_152 : decode cL_best 152 = .ok (.iadd, 1) := by decide +kernel
theorem dL_best_153 : decode cL_best 153 = .ok (.goto 4, 3) := by decide +kernel
theorem dL_best_156 : decode cL_best 156 = .ok (.iload_n 3, 1) := by decide +kernel
theorem dL_best_157 : decode cL_best 157 = .ok (.istore_n 3, 1) := by decide +kernel
theorem dL_best_158 : decode cL_best 158 = .ok (.iinc 6 1, 3) := by decide +kernel
theorem dL_best_161 : decode cL_best 161 = .ok (.goto (-130), 3) := by decide +kernel
theorem dL_best_164 : decode cL_best 164 = .ok (.iinc 5 1, 3) := by decide +kernel
theorem dL_best_167 : decode cL_best 167 = .ok (.goto (-149), 3) := by decide +kernel
theorem dL_best_170 : decode cL_best 170 = .ok (.iinc 4 1, 3) := by decide +kernel
theorem dL_best_173 : decode cL_best 173 = .ok (.goto (-168), 3) := by decide +kernel
theorem dL_best_176 : decode cL_best 176 = .ok (.iload_n 3, 1) := by decide +kernel
theorem dL_best_177 : decode cL_best 177 = .ok (.ireturn, 1) := by decide +kernel
theorem dL_placed_0 : decode cL_placed 0 = .ok (.aload_n 0, 1) := by decide +kernel
theorem dL_placed_1 : decode cL_placed 1 = .ok (.iload_n 1, 1) := by decide +kernel
theorem dL_placed_2 : decode cL_placed 2 = .ok (.iconst 5, 1) := by decide +kernel
theorem dL_placed_3 : decode cL_placed 3 = .ok (.invokevirtual 40, 3) := by decide +kernel
theorem dL_placed_6 : decode cL_placed 6 = .ok (.iconst 1, 1) := by decide +kernel
theorem dL_placed_7 : decode cL_placed 7 = .ok (.if_icmp .ne 30, 3) := by decide +kernel
theorem dL_placed_10 : decode cL_placed 10 = .ok (.aload_n 0, 1) := by decide +kernel
theorem dL_placed_11 : decode cL_placed 11 = .ok (.iload_n 1, 1) := by decide +kernel
theorem dL_placed_12 : decode cL_placed 12 = .ok (.iconst 0, 1) := by decide +kernel
theorem dL_placed_13 : decode cL_placed 13 = .ok (.invokevirtual 70, 3) := by decide +kernel
theorem dL_placed_16 : decode cL_placed 16 = .ok (.bipush (-2), 2) := by decide +kernel
theorem dL_placed_18 : decode cL_placed 18 = .ok (.if_icmp .ne 17, 3) := by decide +kernel
theorem dL_placed_21 : decode cL_placed 21 = .ok (.aload_n 0, 1) := by decide +kernel
theorem dL_placed_22 : decode cL_placed 22 = .ok (.iload_n 1, 1) := by decide +kernel
theorem dL_placed_23 : decode cL_placed 23 = .ok (.invokevirtual 73, 3) := by decide +kernel
theorem dL_placed_26 : decode cL_placed 26 = .ok (.bipush (-2), 2) := by decide +kernel
theorem dL_placed_28 : decode cL_placed 28 = .ok (.if_icmp .ne 7, 3) := by decide +kernel
theorem dL_placed_31 : decode cL_placed 31 = .ok (.iconst 1, 1) := by decide +kernel
theorem dL_placed_32 : decode cL_placed 32 = .ok (.goto 4, 3) := by decide +kernel
theorem dL_placed_35 : decode cL_placed 35 = .ok (.iconst 0, 1) := by decide +kernel
theorem dL_placed_36 : decode cL_placed 36 = .ok (.ireturn, 1) := by decide +kernel
theorem dL_placed_37 : decode cL_placed 37 = .ok (.iconst 1, 1) := by decide +kernel
theorem dL_placed_38 : decode cL_placed 38 = .ok (.newarray .int, 2) := by decide +kernel
theorem dL_placed_40 : decode cL_placed 40 = .ok (.astore_n 2, 1) := by decide +kernel
theorem dL_placed_41 : decode cL_placed 41 = .ok (.aload_n 0, 1) := by decide +kernel
theorem dL_placed_42 : decode cL_placed 42 = .ok (.iload_n 1, 1) := by decide +kernel
theorem dL_placed_43 : decode cL_placed 43 = .ok (.aload_n 2, 1) := by decide +kernel
theorem dL_placed_44 : decode cL_placed 44 = .ok (.invokestatic 76, 3) := by decide +kernel
theorem dL_placed_47 : decode cL_placed 47 = .ok (.istore_n 3, 1) := by decide +kernel
theorem dL_placed_48 : decode cL_placed 48 = .ok (.aload_n 0, 1) := by decide +kernel
theorem dL_placed_49 : decode cL_placed 49 = .ok (.iload_n 1, 1) := by decide +kernel
theorem dL_placed_50 : decode cL_placed 50 = .ok (.invokevirtual 73, 3) := by decide +kernel
theorem dL_placed_53 : decode cL_placed 53 = .ok (.aload_n 2, 1) := by decide +kernel
theorem dL_placed_54 : decode cL_placed 54 = .ok (.iconst 0, 1) := by decide +kernel
theorem dL_placed_55 : decode cL_placed 55 = .ok (.iaload, 1) := by decide +kernel
theorem dL_placed_56 : decode cL_placed 56 = .ok (.if_icmp .eq 5, 3) := by decide +kernel
theorem dL_placed_59 : decode cL_placed 59 = .ok (.iconst 0, 1) := by decide +kernel
theorem dL_placed_60 : decode cL_placed 60 = .ok (.ireturn, 1) := by decide +kernel
theorem dL_placed_61 : decode cL_placed 61 = .ok (.iload_n 3, 1) := by decide +kernel
theorem dL_placed_62 : decode cL_placed 62 = .ok (.ifCond .ge 22, 3) := by decide +kernel
theorem dL_placed_65 : decode cL_placed 65 = .ok (.aload_n 0, 1) := by decide +kernel
theorem dL_placed_66 : decode cL_placed 66 = .ok (.iload_n 1, 1) := by decide +kernel
theorem dL_placed_67 : decode cL_placed 67 = .ok (.iconst 3, 1) := by decide +kernel
theorem dL_placed_68 : decode cL_placed 68 = .ok (.invokevirtual 70, 3) := by decide +kernel
theorem dL_placed_71 : decode cL_placed 71 = .ok (.bipush (-9), 2) := by decide +kernel
theorem dL_placed_73 : decode cL_placed 73 = .ok (.if_icmp .ne 7, 3) := by decide +kernel
theorem dL_placed_76 : decode cL_placed 76 = .ok (.iconst 1, 1) := by decide +kernel
theorem dL_placed_77 : decode cL_placed 77 = .ok (.goto 71, 3) := by decide +kernel
theorem dL_placed_80 : decode cL_placed 80 = .ok (.iconst 0, 1) := by decide +kernel
theorem dL_placed_81 : decode cL_placed 81 = .ok (.goto 67, 3) := by decide +kernel
theorem dL_placed_84 : decode cL_placed 84 = .ok (.aload_n 0, 1) := by decide +kernel
theorem dL_placed_85 : decode cL_placed 85 = .ok (.iload_n 1, 1) := by decide +kernel
theorem dL_placed_86 : decode cL_placed 86 = .ok (.iconst 0, 1) := by decide +kernel
theorem dL_placed_87 : decode cL_placed 87 = .ok (.invokevirtual 70, 3) := by decide +kernel
theorem dL_placed_90 : decode cL_placed 90 = .ok (.iload_n 3, 1) := by decide +kernel
theorem dL_placed_91 : decode cL_placed 91 = .ok (.bipush 10, 2) := by decide +kernel
theorem dL_placed_93 : decode cL_placed 93 = .ok (.idiv, 1) := by decide +kernel
theorem dL_placed_94 : decode cL_placed 94 = .ok (.bipush 10, 2) := by decide +kernel
theorem dL_placed_96 : decode cL_placed 96 = .ok (.irem, 1) := by decide +kernel
theorem dL_placed_97 : decode cL_placed 97 = .ok (.if_icmp .ne 50, 3) := by decide +kernel
theorem dL_placed_100 : decode cL_placed 100 = .ok (.aload_n 0, 1) := by decide +kernel
theorem dL_placed_101 : decode cL_placed 101 = .ok (.iload_n 1, 1) := by decide +kernel
theorem dL_placed_102 : decode cL_placed 102 = .ok (.iconst 1, 1) := by decide +kernel
theorem dL_placed_103 : decode cL_placed 103 = .ok (.invokevirtual 70, 3) := by decide +kernel
theorem dL_placed_106 : decode cL_placed 106 = .ok (.iload_n 3, 1) := by decide +kernel
theorem dL_placed_107 : decode cL_placed 107 = .ok (.bipush 100, 2) := by decide +kernel
theorem dL_placed_109 : decode cL_placed 109 = .ok (.idiv, 1) := by decide +kernel
theorem dL_placed_110 : decode cL_placed 110 = .ok (.bipush 10, 2) := by decide +kernel
theorem dL_placed_112 : decode cL_placed 112 = .ok (.irem, 1) := by decide +kernel
theorem dL_placed_113 : decode cL_placed 113 = .ok (.if_icmp .ne 34, 3) := by decide +kernel
theorem dL_placed_116 : decode cL_placed 116 = .ok (.aload_n 0, 1) := by decide +kernel
theorem dL_placed_117 : decode cL_placed 117 = .ok (.iload_n 1, 1) := by decide +kernel
theorem dL_placed_118 : decode cL_placed 118 = .ok (.iconst 2, 1) := by decide +kernel
theorem dL_placed_119 : decode cL_placed 119 = .ok (.invokevirtual 70, 3) := by decide +kernel
theorem dL_placed_122 : decode cL_placed 122 = .ok (.iload_n 3, 1) := by decide +kernel
theorem dL_placed_123 : decode cL_placed 123 = .ok (.bipush 10, 2) := by decide +kernel
theorem dL_placed_125 : decode cL_placed 125 = .ok (.irem, 1) := by decide +kernel
theorem dL_placed_126 : decode cL_placed 126 = .ok (.if_icmp .ne 21, 3) := by decide +kernel
theorem dL_placed_129 : decode cL_placed 129 = .ok (.aload_n 0, 1) := by decide +kernel
theorem dL_placed_130 : decode cL_placed 130 = .ok (.iload_n 1, 1) := by decide +kernel
theorem dL_placed_131 : decode cL_placed 131 = .ok (.iconst 3, 1) := by decide +kernel
theorem dL_placed_132 : decode cL_placed 132 = .ok (.invokevirtual 70, 3) := by decide +kernel
theorem dL_placed_135 : decode cL_placed 135 = .ok (.iload_n 3, 1) := by decide +kernel
theorem dL_placed_136 : decode cL_placed 136 = .ok (.sipush 1000, 3) := by decide +kernel
theorem dL_placed_139 : decode cL_placed 139 = .ok (.idiv, 1) := by decide +kernel
theorem dL_placed_140 : decode cL_placed 140 = .ok (.if_icmp .ne 7, 3) := by decide +kernel
theorem dL_placed_143 : decode cL_placed 143 = .ok (.iconst 1, 1) := by decide +kernel
theorem dL_placed_144 : decode cL_placed 144 = .ok (.goto 4, 3) := by decide +kernel
theorem dL_placed_147 : decode cL_placed 147 = .ok (.iconst 0, 1) := by decide +kernel
theorem dL_placed_148 : decode cL_placed 148 = .ok (.ireturn, 1) := by decide +kernel
theorem dL_turn_0 : decode cL_turn 0 = .ok (.iload_n 1, 1) := by decide +kernel
theorem dL_turn_1 : decode cL_turn 1 = .ok (.aload_n 0, 1) := by decide +kernel
theorem dL_turn_2 : decode cL_turn 2 = .ok (.iconst 4, 1) := by decide +kernel
theorem dL_turn_3 : decode cL_turn 3 = .ok (.invokevirtual 37, 3) := by decide +kernel
theorem dL_turn_6 : decode cL_turn 6 = .ok (.invokestatic 16, 3) := by decide +kernel
theorem dL_turn_9 : decode cL_turn 9 = .ok (.istore_n 2, 1) := by decide +kernel
theorem dL_turn_10 : decode cL_turn 10 = .ok (.iload_n 1, 1) := by decide +kernel
theorem dL_turn_11 : decode cL_turn 11 = .ok (.iconst 4, 1) := by decide +kernel
theorem dL_turn_12 : decode cL_turn 12 = .ok (.ishr, 1) := by decide +kernel
theorem dL_turn_13 : decode cL_turn 13 = .ok (.aload_n 0, 1) := by decide +kernel
theorem dL_turn_14 : decode cL_turn 14 = .ok (.iconst 0, 1) := by decide +kernel
theorem dL_turn_15 : decode cL_turn 15 = .ok (.invokevirtual 37, 3) := by decide +kernel
theorem dL_turn_18 : decode cL_turn 18 = .ok (.invokestatic 16, 3) := by decide +kernel
theorem dL_turn_21 : decode cL_turn 21 = .ok (.istore_n 3, 1) := by decide +kernel
theorem dL_turn_22 : decode cL_turn 22 = .ok (.iload_n 1, 1) := by decide +kernel
theorem dL_turn_23 : decode cL_turn 23 = .ok (.bipush 7, 2) := by decide +kernel
theorem dL_turn_25 : decode cL_turn 25 = .ok (.ishr, 1) := by decide +kernel
theorem dL_turn_26 : decode cL_turn 26 = .ok (.aload_n 0, 1) := by decide +kernel
theorem dL_turn_27 : decode cL_turn 27 = .ok (.iconst 1, 1) := by decide +kernel
theorem dL_turn_28 : decode cL_turn 28 = .ok (.invokevirtual 37, 3) := by decide +kernel
theorem dL_turn_31 : decode cL_turn 31 = .ok (.invokestatic 16, 3) := by decide +kernel
theorem dL_turn_34 : decode cL_turn 34 = .ok (.istore 4, 2) := by decide +kernel
theorem dL_turn_36 : decode cL_turn 36 = .ok (.iload_n 1, 1) := by decide +kernel
theorem dL_turn_37 : decode cL_turn 37 = .ok (.bipush 10, 2) := by decide +kernel
theorem dL_turn_39 : decode cL_turn 39 = .ok (.ishr, 1) := by decide +kernel
theorem dL_turn_40 : decode cL_turn 40 = .ok (.iconst 3, 1) := by decide +kernel
theorem dL_turn_41 : decode cL_turn 41 = .ok (.invokestatic 16, 3) := by decide +kernel
theorem dL_turn_44 : decode cL_turn 44 = .ok (.ifCond .ne 7, 3) := by decide +kernel
theorem dL_turn_47 : decode cL_turn 47 = .ok (.iconst 1, 1) := by decide +kernel
theorem dL_turn_48 : decode cL_turn 48 = .ok (.goto 4, 3) := by decide +kernel
theorem dL_turn_51 : decode cL_turn 51 = .ok (.iconst 0, 1) := by decide +kernel
theorem dL_turn_52 : decode cL_turn 52 = .ok (.istore 5, 2) := by decide +kernel
theorem dL_turn_54 : decode cL_turn 54 = .ok (.iload_n 3, 1) := by decide +kernel
theorem dL_turn_55 : decode cL_turn 55 = .ok (.aload_n 0, 1) := by decide +kernel
theorem dL_turn_56 : decode cL_turn 56 = .ok (.iload_n 2, 1) := by decide +kernel
theorem dL_turn_57 : decode cL_turn 57 = .ok (.iload 5, 2) := by decide +kernel
theorem dL_turn_59 : decode cL_turn 59 = .ok (.invokestatic 43, 3) := by decide +kernel
theorem dL_turn_62 : decode cL_turn 62 = .ok (.iadd, 1) := by decide +kernel
theorem dL_turn_63 : decode cL_turn 63 = .ok (.aload_n 0, 1) := by decide +kernel
theorem dL_turn_64 : decode cL_turn 64 = .ok (.iconst 0, 1) := by decide +kernel
theorem dL_turn_65 : decode cL_turn 65 = .ok (.invokevirtual 37, 3) := by decide +kernel
theorem dL_turn_68 : decode cL_turn 68 = .ok (.if_icmp .gt 33, 3) := by decide +kernel
theorem dL_turn_71 : decode cL_turn 71 = .ok (.iload 4, 2) := by decide +kernel
theorem dL_turn_73 : decode cL_turn 73 = .ok (.aload_n 0, 1) := by decide +kernel
theorem dL_turn_74 : decode cL_turn 74 = .ok (.iload_n 2, 1) := by decide +kernel
theorem dL_turn_75 : decode cL_turn 75 = .ok (.iload 5, 2) := by decide +kernel
theorem dL_turn_77 : decode cL_turn 77 = .ok (.ifCond .ne 7, 3) := by decide +kernel
theorem dL_turn_80 : decode cL_turn 80 = .ok (.iconst 1, 1) := by decide +kernel
theorem dL_turn_81 : decode cL_turn 81 = .ok (.goto 4, 3) := by decide +kernel
theorem dL_turn_84 : decode cL_turn 84 = .ok (.iconst 0, 1) := by decide +kernel
theorem dL_turn_85 : decode cL_turn 85 = .ok (.invokestatic 43, 3) := by decide +kernel
theorem dL_turn_88 : decode cL_turn 88 = .ok (.iadd, 1) := by decide +kernel
theorem dL_turn_89 : decode cL_turn 89 = .ok (.aload_n 0, 1) := by decide +kernel
theorem dL_turn_90 : decode cL_turn 90 = .ok (.iconst 1, 1) := by decide +kernel
theorem dL_turn_91 : decode cL_turn 91 = .ok (.invokevirtual 37, 3) := by decide +kernel
theorem dL_turn_94 : decode cL_turn 94 = .ok (.if_icmp .gt 7, 3) := by decide +kernel
theorem dL_turn_97 : decode cL_turn 97 = .ok (.iconst 1, 1) := by decide +kernel
theorem dL_turn_98 : decode cL_turn 98 = .ok (.goto 4, 3) := by decide +kernel
theorem dL_turn_101 : decode cL_turn 101 = .ok (.iconst 0, 1) := by decide +kernel
theorem dL_turn_102 : decode cL_turn 102 = .ok (.istore 6, 2) := by decide +kernel
theorem dL_turn_104 : decode cL_turn 104 = .ok (.aload_n 0, 1) := by decide +kernel
theorem dL_turn_105 : decode cL_turn 105 = .ok (.iload_n 2, 1) := by decide +kernel
theorem dL_turn_106 : decode cL_turn 106 = .ok (.iconst 5, 1) := by decide +kernel
theorem dL_turn_107 : decode cL_turn 107 = .ok (.invokevirtual 40, 3) := by decide +kernel
theorem dL_turn_110 : decode cL_turn 110 = .ok (.iconst 1, 1) := by decide +kernel
theorem dL_turn_111 : decode cL_turn 111 = .ok (.if_icmp .ne 111, 3) := by decide +kernel
theorem dL_turn_114 : decode cL_turn 114 = .ok (.aload_n 0, 1) := by decide +kernel
theorem dL_turn_115 : decode cL_turn 115 = .ok (.iload_n 2, 1) := by decide +kernel
theorem dL_turn_116 : decode cL_turn 116 = .ok (.bipush 9, 2) := by decide +kernel
theorem dL_turn_118 : decode cL_turn 118 = .ok (.invokevirtual 40, 3) := by decide +kernel
theorem dL_turn_121 : decode cL_turn 121 = .ok (.istore 7, 2) := by decide +kernel
theorem dL_turn_123 : decode cL_turn 123 = .ok (.aload_n 0, 1) := by decide +kernel
theorem dL_turn_124 : decode cL_turn 124 = .ok (.iload_n 2, 1) := by decide +kernel
theorem dL_turn_125 : decode cL_turn 125 = .ok (.bipush 13, 2) := by decide +kernel
theorem dL_turn_127 : decode cL_turn 127 = .ok (.invokevirtual 40, 3) := by decide +kernel
theorem dL_turn_130 : decode cL_turn 130 = .ok (.iconst 1, 1) := by decide +kernel
theorem dL_turn_131 : decode cL_turn 131 = .ok (.if_icmp .ne 7, 3) := by decide +kernel
theorem dL_turn_134 : decode cL_turn 134 = .ok (.iconst 1, 1) := by decide +kernel
theorem dL_turn_135 : decode cL_turn 135 = .ok (.goto 4, 3) := by decide +kernel
theorem dL_turn_138 : decode cL_turn 138 = .ok (.iconst 0, 1) := by decide +kernel
theorem dL_turn_139 : decode cL_turn 139 = .ok (.istore 8, 2) := by decide +kernel
theorem dL_turn_141 : decode cL_turn 141 = .ok (.iload_n 1, 1) := by decide +kernel
theorem dL_turn_142 : decode cL_turn 142 = .ok (.bipush 12, 2) := by decide +kernel
theorem dL_turn_144 : decode cL_turn 144 = .ok (.ishr, 1) := by decide +kernel
theorem dL_turn_145 : decode cL_turn 145 = .ok (.iconst 3, 1) := by decide +kernel
theorem dL_turn_146 : decode cL_turn 146 = .ok (.invokestatic 16, 3) := by decide +kernel
theorem dL_turn_149 : decode cL_turn 149 = .ok (.ifCond .ne 7, 3) := by decide +kernel
theorem dL_turn_152 : decode cL_turn 152 = .ok (.iconst 1, 1) := by decide +kernel
theorem dL_turn_153 : decode cL_turn 153 = .ok (.goto 4, 3) := by decide +kernel
theorem dL_turn_156 : decode cL_turn 156 = .ok (.iconst 0, 1) := by decide +kernel
theorem dL_turn_157 : decode cL_turn 157 = .ok (.istore 9, 2) := by decide +kernel
theorem dL_turn_159 : decode cL_turn 159 = .ok (.iload 9, 2) := by decide +kernel
theorem dL_turn_161 : decode cL_turn 161 = .ok (.ifCond .eq 31, 3) := by decide +kernel
theorem dL_turn_164 : decode cL_turn 164 = .ok (.aload_n 0, 1) := by decide +kernel
theorem dL_turn_165 : decode cL_turn 165 = .ok (.iload_n 2, 1) := by decide +kernel
theorem dL_turn_166 : decode cL_turn 166 = .ok (.invokevirtual 80, 3) := by decide +kernel
theorem dL_turn_169 : decode cL_turn 169 = .ok (.iload 8, 2) := by decide +kernel
theorem dL_turn_171 : decode cL_turn 171 = .ok (.ifCond .eq 8, 3) := by decide +kernel
theorem dL_turn_174 : decode cL_turn 174 = .ok (.iload 7, 2) := by decide +kernel
theorem dL_turn_176 : decode cL_turn 176 = .ok (.goto 5, 3) := by decide +kernel
theorem dL_turn_179 : decode cL_turn 179 = .ok (.bipush (-2), 2) := by decide +kernel
theorem dL_turn_181 : decode cL_turn 181 = .ok (.if_icmp .ne 7, 3) := by decide +kernel
theorem dL_turn_184 : decode cL_turn 184 = .ok (.iconst 1, 1) := by decide +kernel
theorem dL_turn_185 : decode cL_turn 185 = .ok (.goto 36, 3) := by decide +kernel
theorem dL_turn_188 : decode cL_turn 188 = .ok (.iconst 0, 1) := by decide +kernel
theorem dL_turn_189 : decode cL_turn 189 = .ok (.goto 32, 3) := by decide +kernel
theorem dL_turn_192 : decode cL_turn 192 = .ok (.aload_n 0, 1) := by decide +kernel
theorem dL_turn_193 : decode cL_turn 193 = .ok (.iload_n 2, 1) := by decide +kernel
theorem dL_turn_194 : decode cL_turn 194 = .ok (.iload_n 3, 1) := by decide +kernel
theorem dL_turn_195 : decode cL_turn 195 = .ok (.iload 4, 2) := by decide +kernel
theorem dL_turn_197 : decode cL_turn 197 = .ok (.iload 5, 2) := by decide +kernel
theorem dL_turn_199 : decode cL_turn 199 = .ok (.invokevirtual 83, 3) := by decide +kernel
theorem dL_turn_202 : decode cL_turn 202 = .ok (.iload 6, 2) := by decide +kernel
theorem dL_turn_204 : decode cL_turn 204 = .ok (.ifCond .eq 8, 3) := by decide +kernel
theorem dL_turn_207 : decode cL_turn 207 = .ok (.bipush (-2), 2) := by decide +kernel
theorem dL_turn_209 : decode cL_turn 209 = .ok (.goto 4, 3) := by decide +kernel
theorem dL_turn_212 : decode cL_turn 212 = .ok (.iconst (-1), 1) := by decide +kernel
theorem dL_turn_213 : decode cL_turn 213 = .ok (.if_icmp .ne 7, 3) := by decide +kernel
theorem dL_turn_216 : decode cL_turn 216 = .ok (.iconst 1, 1) := by decide +kernel
theorem dL_turn_217 : decode cL_turn 217 = .ok (.goto 4, 3) := by decide +kernel
theorem dL_turn_220 : decode cL_turn 220 = .ok (.iconst 0, 1) := by decide +kernel
theorem dL_turn_221 : decode cL_turn 221 = .ok (.ireturn, 1) := by decide +kernel
theorem dL_turn_222 : decode cL_turn 222 = .ok (.aload_n 0, 1) := by decide +kernel
theorem dL_turn_223 : decode cL_turn 223 = .ok (.iload_n 2, 1) := by decide +kernel
theorem dL_turn_224 : decode cL_turn 224 = .ok (.iload_n 3, 1) := by decide +kernel
theorem dL_turn_225 : decode cL_turn 225 = .ok (.iload 4, 2) := by decide +kernel
theorem dL_turn_227 : decode cL_turn 227 = .ok (.iload 5, 2) := by decide +kernel
theorem dL_turn_229 : decode cL_turn 229 = .ok (.invokestatic 66, 3) := by decide +kernel
theorem dL_turn_232 : decode cL_turn 232 = .ok (.istore 7, 2) := by decide +kernel
theorem dL_turn_234 : decode cL_turn 234 = .ok (.iload 6, 2) := by decide +kernel
theorem dL_turn_236 : decode cL_turn 236 = .ok (.ifCond .eq 20, 3) := by decide +kernel
theorem dL_turn_239 : decode cL_turn 239 = .ok (.aload_n 0, 1) := by decide +kernel
theorem dL_turn_240 : decode cL_turn 240 = .ok (.iload_n 2, 1) := by decide +kernel
theorem dL_turn_241 : decode cL_turn 241 = .ok (.iload_n 3, 1) := by decide +kernel
theorem dL_turn_242 : decode cL_turn 242 = .ok (.iload 4, 2) := by decide +kernel
theorem dL_turn_244 : decode cL_turn 244 = .ok (.iload 5, 2) := by decide +kernel
theorem dL_turn_246 : decode cL_turn 246 = .ok (.invokestatic 51, 3) := by decide +kernel
theorem dL_turn_249 : decode cL_turn 249 = .ok (.sipush 1000, 3) := by decide +kernel
theorem dL_turn_252 : decode cL_turn 252 = .ok (.irem, 1) := by decide +kernel
theorem dL_turn_253 : decode cL_turn 253 = .ok (.goto 4, 3) := by decide +kernel
theorem dL_turn_256 : decode cL_turn 256 = .ok (.iconst 0, 1) := by decide +kernel
theorem dL_turn_257 : decode cL_turn 257 = .ok (.istore 8, 2) := by decide +kernel
theorem dL_turn_259 : decode cL_turn 259 = .ok (.aload_n 0, 1) := by decide +kernel
theorem dL_turn_260 : decode cL_turn 260 = .ok (.iload_n 2, 1) := by decide +kernel
theorem dL_turn_261 : decode cL_turn 261 = .ok (.iload_n 3, 1) := by decide +kernel
theorem dL_turn_262 : decode cL_turn 262 = .ok (.iload 4, 2) := by decide +kernel
theorem dL_turn_264 : decode cL_turn 264 = .ok (.iload 5, 2) := by decide +kernel
theorem dL_turn_266 : decode cL_turn 266 = .ok (.invokevirtual 83, 3) := by decide +kernel
theorem dL_turn_269 : decode cL_turn 269 = .ok (.istore 9, 2) := by decide +kernel
theorem dL_turn_271 : decode cL_turn 271 = .ok (.iload 9, 2) := by decide +kernel
theorem dL_turn_273 : decode cL_turn 273 = .ok (.iload 6, 2) := by decide +kernel
theorem dL_turn_275 : decode cL_turn 275 = .ok (.ifCond .ne 7, 3) := by decide +kernel
theorem dL_turn_278 : decode cL_turn 278 = .ok (.iconst (-1), 1) := by decide +kernel
theorem dL_turn_279 : decode cL_turn 279 = .ok (.goto 15, 3) := by decide +kernel
theorem dL_turn_282 : decode cL_turn 282 = .ok (.iload 7, 2) := by decide +kernel
theorem dL_turn_284 : decode cL_turn 284 = .ok (.ifCond .eq 8, 3) := by decide +kernel
theorem dL_turn_287 : decode cL_turn 287 = .ok (.iload 8, 2) := by decide +kernel
theorem dL_turn_289 : decode cL_turn 289 = .ok (.goto 5, 3) := by decide +kernel
theorem dL_turn_292 : decode cL_turn 292 = .ok (.bipush (-3), 2) := by decide +kernel
theorem dL_turn_294 : decode cL_turn 294 = .ok (.if_icmp .ne 47, 3) := by decide +kernel
theorem dL_turn_297 : decode cL_turn 297 = .ok (.iload 7, 2) := by decide +kernel
theorem dL_turn_299 : decode cL_turn 299 = .ok (.ifCond .eq 38, 3) := by decide +kernel
theorem dL_turn_302 : decode cL_turn 302 = .ok (.aload_n 0, 1) := by decide +kernel
theorem dL_turn_303 : decode cL_turn 303 = .ok (.iload_n 2, 1) := by decide +kernel
theorem dL_turn_304 : decode cL_turn 304 = .ok (.bipush 7, 2) := by decide +kernel
theorem dL_turn_306 : decode cL_turn 306 = .ok (.invokevirtual 40, 3) := by decide +kernel
theorem dL_turn_309 : decode cL_turn 309 = .ok (.iload_n 3, 1) := by decide +kernel
theorem dL_turn_310 : decode cL_turn 310 = .ok (.if_icmp .ne 31, 3) := by decide +kernel
theorem dL_turn_313 : decode cL_turn 313 = .ok (.aload_n 0, 1) := by decide +kernel
theorem dL_turn_314 : decode cL_turn 314 = .ok (.iload_n 2, 1) := by decide +kernel
theorem dL_turn_315 : decode cL_turn 315 = .ok (.bipush 8, 2) := by decide +kernel
theorem dL_turn_317 : decode cL_turn 317 = .ok (.invokevirtual 40, 3) := by decide +kernel
theorem dL_turn_320 : decode cL_turn 320 = .ok (.iload 4, 2) := by decide +kernel
theorem dL_turn_322 : decode cL_turn 322 = .ok (.if_icmp .ne 19, 3) := by decide +kernel
theorem dL_turn_325 : decode cL_turn 325 = .ok (.aload_n 0, 1) := by decide +kernel
theorem dL_turn_326 : decode cL_turn 326 = .ok (.iload_n 2, 1) := by decide +kernel
theorem dL_turn_327 : decode cL_turn 327 = .ok (.bipush 9, 2) := by decide +kernel
theorem dL_turn_329 : decode cL_turn 329 = .ok (.invokevirtual 40, 3) := by decide +kernel
theorem dL_turn_332 : decode cL_turn 332 = .ok (.iload 8, 2) := by decide +kernel
theorem dL_turn_334 : decode cL_turn 334 = .ok (.if_icmp .ne 7, 3) := by decide +kernel
theorem dL_turn_337 : decode cL_turn 337 = .ok (.iconst 1, 1) := by decide +kernel
theorem dL_turn_338 : decode cL_turn 338 = .ok (.goto 4, 3) := by decide +kernel
theorem dL_turn_341 : decode cL_turn 341 = .ok (.iconst 0, 1) := by decide +kernel
theorem dL_turn_342 : decode cL_turn 342 = .ok (.ireturn, 1) := by decide +kernel
theorem dL_packed_0 : decode cL_packed 0 = .ok (.aload_n 0, 1) := by decide +kernel
theorem dL_packed_1 : decode cL_packed 1 = .ok (.iconst 4, 1) := by decide +kernel
theorem dL_packed_2 : decode cL_packed 2 = .ok (.invokevirtual 37, 3) := by decide +kernel
theorem dL_packed_5 : decode cL_packed 5 = .ok (.istore_n 1, 1) := by decide +kernel
theorem dL_packed_6 : decode cL_packed 6 = .ok (.new 21, 3) := by decide +kernel
theorem dL_packed_9 : decode cL_packed 9 = .ok (.dup, 1) := by decide +kernel
theorem dL_packed_10 : decode cL_packed 10 = .ok (.invokespecial 87, 3) := by decide +kernel
theorem dL_packed_13 : decode cL_packed 13 = .ok (.astore_n 2, 1) := by decide +kernel
theorem dL_packed_14 : decode cL_packed 14 = .ok (.aload_n 2, 1) := by decide +kernel
theorem dL_packed_15 : decode cL_packed 15 = .ok (.aload_n 0, 1) := by decide +kernel
theorem dL_packed_16 : decode cL_packed 16 = .ok (.iconst 0, 1) := by decide +kernel
theorem dL_packed_17 : decode cL_packed 17 = .ok (.invokevirtual 37, 3) := by decide +kernel
theorem dL_packed_20 : decode cL_packed 20 = .ok (.aload_n 0, 1) := by decide +kernel
theorem dL_packed_21 : decode cL_packed 21 = .ok (.iconst 1, 1) := by decide +kernel
theorem dL_packed_22 : decode cL_packed 22 = .ok (.invokevirtual 37, 3) := by decide +kernel
theorem dL_packed_25 : decode cL_packed 25 = .ok (.aload_n 0, 1) := by decide +kernel
theorem dL_packed_26 : decode cL_packed 26 = .ok (.iconst 2, 1) := by decide +kernel
theorem dL_packed_27 : decode cL_packed 27 = .ok (.invokevirtual 37, 3) := by decide +kernel
theorem dL_packed_30 : decode cL_packed 30 = .ok (.invokevirtual 20, 3) := by decide +kernel
theorem dL_packed_33 : decode cL_packed 33 = .ok (.pop, 1) := by decide +kernel
theorem dL_packed_34 : decode cL_packed 34 = .ok (.aload_n 2, 1) := by decide +kernel
theorem dL_packed_35 : decode cL_packed 35 = .ok (.aload_n 0, 1) := by decide +kernel
theorem dL_packed_36 : decode cL_packed 36 = .ok (.iconst 3, 1) := by decide +kernel
theorem dL_packed_37 : decode cL_packed 37 = .ok (.invokevirtual 37, 3) := by decide +kernel
theorem dL_packed_40 : decode cL_packed 40 = .ok (.invokevirtual 26, 3) := by decide +kernel
theorem dL_packed_43 : decode cL_packed 43 = .ok (.pop, 1) := by decide +kernel
theorem dL_packed_44 : decode cL_packed 44 = .ok (.iconst 0, 1) := by decide +kernel
theorem dL_packed_45 : decode cL_packed 45 = .ok (.istore_n 3, 1) := by decide +kernel
theorem dL_packed_46 : decode cL_packed 46 = .ok (.iload_n 3, 1) := by decide +kernel
theorem dL_packed_47 : decode cL_packed 47 = .ok (.iload_n 1, 1) := by decide +kernel
theorem dL_packed_48 : decode cL_packed 48 = .ok (.if_icmp .ge 51, 3) := by decide +kernel
theorem dL_packed_51 : decode cL_packed 51 = .ok (.aload_n 2, 1) := by decide +kernel
theorem dL_packed_52 : decode cL_packed 52 = .ok (.aload_n 0, 1) := by decide +kernel
theorem dL_packed_53 : decode cL_packed 53 = .ok (.iload_n 3, 1) := by decide +kernel
theorem dL_packed_54 : decode cL_packed 54 = .ok (.iconst 0, 1) := by decide +kernel
theorem dL_packed_55 : decode cL_packed 55 = .ok (.invokevirtual 40, 3) := by decide +kernel
theorem dL_packed_58 : decode cL_packed 58 = .ok (.aload_n 0, 1) := by decide +kernel
theorem dL_packed_59 : decode cL_packed 59 = .ok (.iload_n 3, 1) := by decide +kernel
theorem dL_packed_60 : decode cL_packed 60 = .ok (.iconst 1, 1) := by decide +kernel
theorem dL_packed_61 : decode cL_packed 61 = .ok (.invokevirtual 40, 3) := by decide +kernel
theorem dL_packed_64 : decode cL_packed 64 = .ok (.aload_n 0, 1) := by decide +kernel
theorem dL_packed_65 : decode cL_packed 65 = .ok (.iload_n 3, 1) := by decide +kernel
theorem dL_packed_66 : decode cL_packed 66 = .ok (.iconst 2, 1) := by decide +kernel
theorem dL_packed_67 : decode cL_packed 67 = .ok (.invokevirtual 40, 3) := by decide +kernel
theorem dL_packed_70 : decode cL_packed 70 = .ok (.aload_n 0, 1) := by decide +kernel
theorem dL_packed_71 : decode cL_packed 71 = .ok (.iload_n 3, 1) := by decide +kernel
theorem dL_packed_72 : decode cL_packed 72 = .ok (.iconst 3, 1) := by decide +kernel
theorem dL_packed_73 : decode cL_packed 73 = .ok (.invokevirtual 40, 3) := by decide +kernel
theorem dL_packed_76 : decode cL_packed 76 = .ok (.invokevirtual 30, 3) := by decide +kernel
theorem dL_packed_79 : decode cL_packed 79 = .ok (.pop, 1) := by decide +kernel
theorem dL_packed_80 : decode cL_packed 80 = .ok (.aload_n 2, 1) := by decide +kernel
theorem dL_packed_81 : decode cL_packed 81 = .ok (.iload_n 3, 1) := by decide +kernel
theorem dL_packed_82 : decode cL_packed 82 = .ok (.iconst 1, 1) := by decide +kernel
theorem dL_packed_83 : decode cL_packed 83 = .ok (.aload_n 0, 1) := by decide +kernel
theorem dL_packed_84 : decode cL_packed 84 = .ok (.iload_n 3, 1) := by decide +kernel
theorem dL_packed_85 : decode cL_packed 85 = .ok (.iconst 4, 1) := by decide +kernel
theorem dL_packed_86 : decode cL_packed 86 = .ok (.invokevirtual 40, 3) := by decide +kernel
theorem dL_packed_89 : decode cL_packed 89 = .ok (.invokevirtual 34, 3) := by decide +kernel
theorem dL_packed_92 : decode cL_packed 92 = .ok (.pop, 1) := by decide +kernel
theorem dL_packed_93 : decode cL_packed 93 = .ok (.iinc 3 1, 3) := by decide +kernel
theorem dL_packed_96 : decode cL_packed 96 = .ok (.goto (-50), 3) := by decide +kernel
theorem dL_packed_99 : decode cL_packed 99 = .ok (.iconst 0, 1) := by decide +kernel
theorem dL_packed_100 : decode cL_packed 100 = .ok (.istore_n 3, 1) := by decide +kernel
theorem dL_packed_101 : decode cL_packed 101 = .ok (.iconst 0, 1) := by decide +kernel
theorem dL_packed_102 : decode cL_packed 102 = .ok (.istore 4, 2) := by decide +kernel
theorem dL_packed_104 : decode cL_packed 104 = .ok (.iconst 0, 1) := by decide +kernel
theorem dL_packed_105 : decode cL_packed 105 = .ok (.istore 5, 2) := by decide +kernel
theorem dL_packed_107 : decode cL_packed 107 = .ok (.iload 5, 2) := by decide +kernel
theorem dL_packed_109 : decode cL_packed 109 = .ok (.iload_n 1, 1) := by decide +kernel
theorem dL_packed_110 : decode cL_packed 110 = .ok (.if_icmp .ge 234, 3) := by decide +kernel
theorem dL_packed_113 : decode cL_packed 113 = .ok (.iconst (-1), 1) := by decide +kernel
theorem dL_packed_114 : decode cL_packed 114 = .ok (.istore 6, 2) := by decide +kernel
theorem dL_packed_116 : decode cL_packed 116 = .ok (.iload_n 1, 1) := by decide +kernel
theorem dL_packed_117 : decode cL_packed 117 = .ok (.iconst 1, 1) := by decide +kernel
theorem dL_packed_118 : decode cL_packed 118 = .ok (.isub, 1) := by decide +kernel
theorem dL_packed_119 : decode cL_packed 119 = .ok (.istore 7, 2) := by decide +kernel
theorem dL_packed_121 : decode cL_packed 121 = .ok (.iload 7, 2) := by decide +kernel
theorem dL_packed_123 : decode cL_packed 123 = .ok (.ifCond .lt 115, 3) := by decide +kernel
theorem dL_packed_126 : decode cL_packed 126 = .ok (.aload_n 0, 1) := by decide +kernel
theorem dL_packed_127 : decode cL_packed 127 = .ok (.iload 7, 2) := by decide +kernel
theorem dL_packed_129 : decode cL_packed 129 = .ok (.iconst 0, 1) := by decide +kernel
theorem dL_packed_130 : decode cL_packed 130 = .ok (.invokevirtual 40, 3) := by decide +kernel
theorem dL_packed_133 : decode cL_packed 133 = .ok (.aload_n 0, 1) := by decide +kernel
theorem dL_packed_134 : decode cL_packed 134 = .ok (.iload 7, 2) := by decide +kernel
theorem dL_packed_136 : decode cL_packed 136 = .ok (.iconst 1, 1) := by decide +kernel
theorem dL_packed_137 : decode cL_packed 137 = .ok (.invokevirtual 40, 3) := by decide +kernel
theorem dL_packed_140 : decode cL_packed 140 = .ok (.imul, 1) := by decide +kernel
theorem dL_packed_141 : decode cL_packed 141 = .ok (.istore 8, 2) := by decide +kernel
theorem dL_packed_143 : decode cL_packed 143 = .ok (.iload 6, 2) := by decide +kernel
theorem dL_packed_145 : decode cL_packed 145 = .ok (.ifCond .lt 57, 3) := by decide +kernel
theorem dL_packed_148 : decode cL_packed 148 = .ok (.aload_n 0, 1) := by decide +kernel
theorem dL_packed_149 : decode cL_packed 149 = .ok (.iload 7, 2) := by decide +kernel
theorem dL_packed_151 : decode cL_packed 151 = .ok (.iconst 3, 1) := by decide +kernel
theorem dL_packed_152 : decode cL_packed 152 = .ok (.invokevirtual 40, 3) := by decide +kernel
theorem dL_packed_155 : decode cL_packed 155 = .ok (.aload_n 0, 1) := by decide +kernel
theorem dL_packed_156 : decode cL_packed 156 = .ok (.iload 6, 2) := by decide +kernel
theorem dL_packed_158 : decode cL_packed 158 = .ok (.iconst 3, 1) := by decide +kernel
theorem dL_packed_159 : decode cL_packed 159 = .ok (.invokevirtual 40, 3) := by decide +kernel
theorem dL_packed_162 : decode cL_packed 162 = .ok (.if_icmp .gt 40, 3) := by decide +kernel
theorem dL_packed_165 : decode cL_packed 165 = .ok (.aload_n 0, 1) := by decide +kernel
theorem dL_packed_166 : decode cL_packed 166 = .ok (.iload 7, 2) := by decide +kernel
theorem dL_packed_168 : decode cL_packed 168 = .ok (.iconst 3, 1) := by decide +kernel
theorem dL_packed_169 : decode cL_packed 169 = .ok (.invokevirtual 40, 3) := by decide +kernel
theorem dL_packed_172 : decode cL_packed 172 = .ok (.aload_n 0, 1) := by decide +kernel
theorem dL_packed_173 : decode cL_packed 173 = .ok (.iload 6, 2) := by decide +kernel
theorem dL_packed_175 : decode cL_packed 175 = .ok (.iconst 3, 1) := by decide +kernel
theorem dL_packed_176 : decode cL_packed 176 = .ok (.invokevirtual 40, 3) := by decide +kernel
theorem dL_packed_179 : decode cL_packed 179 = .ok (.if_icmp .ne 27, 3) := by decide +kernel
theorem dL_packed_182 : decode cL_packed 182 = .ok (.iload 8, 2) := by decide +kernel
theorem dL_packed_184 : decode cL_packed 184 = .ok (.aload_n 0, 1) := by decide +kernel
theorem dL_packed_185 : decode cL_packed 185 = .ok (.iload 6, 2) := by decide +kernel
theorem dL_packed_187 : decode cL_packed 187 = .ok (.iconst 0, 1) := by decide +kernel
theorem dL_packed_188 : decode cL_packed 188 = .ok (.invokevirtual 40, 3) := by decide +kernel
theorem dL_packed_191 : decode cL_packed 191 = .ok (.aload_n 0, 1) := by decide +kernel
theorem dL_packed_192 : decode cL_packed 192 = .ok (.iload 6, 2) := by decide +kernel
theorem dL_packed_194 : decode cL_packed 194 = .ok (.iconst 1, 1) := by decide +kernel
theorem dL_packed_195 : decode cL_packed 195 = .ok (.invokevirtual 40, 3) := by decide +kernel
theorem dL_packed_198 : decode cL_packed 198 = .ok (.imul, 1) := by decide +kernel
theorem dL_packed_199 : decode cL_packed 199 = .ok (.if_icmp .lt 7, 3) := by decide +kernel
theorem dL_packed_202 : decode cL_packed 202 = .ok (.iconst 1, 1) := by decide +kernel
theorem dL_packed_203 : decode cL_packed 203 = .ok (.goto 4, 3) := by decide +kernel
theorem dL_packed_206 : decode cL_packed 206 = .ok (.iconst 0, 1) := by decide +kernel
theorem dL_packed_207 : decode cL_packed 207 = .ok (.istore 9, 2) := by decide +kernel
theorem dL_packed_209 : decode cL_packed 209 = .ok (.iload_n 3, 1) := by decide +kernel
theorem dL_packed_210 : decode cL_packed 210 = .ok (.iload 7, 2) := by decide +kernel
theorem dL_packed_212 : decode cL_packed 212 = .ok (.ishr, 1) := by decide +kernel
theorem dL_packed_213 : decode cL_packed 213 = .ok (.iconst 1, 1) := by decide +kernel
theorem dL_packed_214 : decode cL_packed 214 = .ok (.iand, 1) := by decide +kernel
theorem dL_packed_215 : decode cL_packed 215 = .ok (.ifCond .ne 13, 3) := by decide +kernel
theorem dL_packed_218 : decode cL_packed 218 = .ok (.iload 9, 2) := by decide +kernel
theorem dL_packed_220 : decode cL_packed 220 = .ok (.ifCond .eq 8, 3) := by decide +kernel
theorem dL_packed_223 : decode cL_packed 223 = .ok (.iload 7, 2) := by decide +kernel
theorem dL_packed_225 : decode cL_packed 225 = .ok (.goto 5, 3) := by decide +kernel
theorem dL_packed_228 : decode cL_packed 228 = .ok (.iload 6, 2) := by decide +kernel
theorem dL_packed_230 : decode cL_packed 230 = .ok (.istore 6, 2) := by decide +kernel
theorem dL_packed_232 : decode cL_packed 232 = .ok (.iinc 7 (-1), 3) := by decide +kernel
theorem dL_packed_235 : decode cL_packed 235 = .ok (.goto (-114), 3) := by decide +kernel
theorem dL_packed_238 : decode cL_packed 238 = .ok (.iload_n 3, 1) := by decide +kernel
theorem dL_packed_239 : decode cL_packed 239 = .ok (.iconst 1, 1) := by decide +kernel
theorem dL_packed_240 : decode cL_packed 240 = .ok (.iload 6, 2) := by decide +kernel
theorem dL_packed_242 : decode cL_packed 242 = .ok (.ishl, 1) := by decide +kernel
theorem dL_packed_243 : decode cL_packed 243 = .ok (.ior, 1) := by decide +kernel
theorem dL_packed_244 : decode cL_packed 244 = .ok (.istore_n 3, 1) := by decide +kernel
theorem dL_packed_245 : decode cL_packed 245 = .ok (.aload_n 0, 1) := by decide +kernel
theorem dL_packed_246 : decode cL_packed 246 = .ok (.iconst 0, 1) := by decide +kernel
theorem dL_packed_247 : decode cL_packed 247 = .ok (.bipush 10, 2) := by decide +kernel
theorem dL_packed_249 : decode cL_packed 249 = .ok (.iload 5, 2) := by decide +kernel
theorem dL_packed_251 : decode cL_packed 251 = .ok (.iadd, 1) := by decide +kernel
theorem dL_packed_252 : decode cL_packed 252 = .ok (.invokevirtual 88, 3) := by decide +kernel
theorem dL_packed_255 : decode cL_packed 255 = .ok (.iload 6, 2) := by decide +kernel
theorem dL_packed_257 : decode cL_packed 257 = .ok (.if_icmp .eq 5, 3) := by decide +kernel
theorem dL_packed_260 : decode cL_packed 260 = .ok (.iconst 0, 1) := by decide +kernel
theorem dL_packed_261 : decode cL_packed 261 = .ok (.ireturn, 1) := by decide +kernel
theorem dL_packed_262 : decode cL_packed 262 = .ok (.iconst 1, 1) := by decide +kernel
theorem dL_packed_263 : decode cL_packed 263 = .ok (.newarray .int, 2) := by decide +kernel
theorem dL_packed_265 : decode cL_packed 265 = .ok (.astore 7, 2) := by decide +kernel
theorem dL_packed_267 : decode cL_packed 267 = .ok (.aload_n 2, 1) := by decide +kernel
theorem dL_packed_268 : decode cL_packed 268 = .ok (.iload 6, 2) := by decide +kernel
theorem dL_packed_270 : decode cL_packed 270 = .ok (.aload 7, 2) := by decide +kernel
theorem dL_packed_272 : decode cL_packed 272 = .ok (.invokestatic 76, 3) := by decide +kernel
theorem dL_packed_275 : decode cL_packed 275 = .ok (.istore 8, 2) := by decide +kernel
theorem dL_packed_277 : decode cL_packed 277 = .ok (.iload 4, 2) := by decide +kernel
theorem dL_packed_279 : decode cL_packed 279 = .ok (.iload 8, 2) := by decide +kernel
theorem dL_packed_281 : decode cL_packed 281 = .ok (.ifCond .ge 7, 3) := by decide +kernel
theorem dL_packed_284 : decode cL_packed 284 = .ok (.iconst 1, 1) := by decide +kernel
theorem dL_packed_285 : decode cL_packed 285 = .ok (.goto 4, 3) := by decide +kernel
theorem dL_packed_288 : decode cL_packed 288 = .ok (.iconst 0, 1) := by decide +kernel
theorem dL_packed_289 : decode cL_packed 289 = .ok (.iadd, 1) := by decide +kernel
theorem dL_packed_290 : decode cL_packed 290 = .ok (.istore 4, 2) := by decide +kernel
theorem dL_packed_292 : decode cL_packed 292 = .ok (.iload 8, 2) := by decide +kernel
theorem dL_packed_294 : decode cL_packed 294 = .ok (.ifCond .lt 44, 3) := by decide +kernel
theorem dL_packed_297 : decode cL_packed 297 = .ok (.aload_n 2, 1) := by decide +kernel
theorem dL_packed_298 : decode cL_packed 298 = .ok (.iload 6, 2) := by decide +kernel
theorem dL_packed_300 : decode cL_packed 300 = .ok (.iload 8, 2) := by decide +kernel
theorem dL_packed_302 : decode cL_packed 302 = .ok (.bipush 10, 2) := by decide +kernel
theorem dL_packed_304 : decode cL_packed 304 = .ok (.idiv, 1) := by decide +kernel
theorem dL_packed_305 : decode cL_packed 305 = .ok (.bipush 10, 2) := by decide +kernel
theorem dL_packed_307 : decode cL_packed 307 = .ok (.irem, 1) := by decide +kernel
theorem dL_packed_308 : decode cL_packed 308 = .ok (.iload 8, 2) := by decide +kernel
theorem dL_packed_310 : decode cL_packed 310 = .ok (.bipush 100, 2) := by decide +kernel
theorem dL_packed_312 : decode cL_packed 312 = .ok (.idiv, 1) := by decide +kernel
theorem dL_packed_313 : decode cL_packed 313 = .ok (.bipush 10, 2) := by decide +kernel
theorem dL_packed_315 : decode cL_packed 315 = .ok (.irem, 1) := by decide +kernel
theorem dL_packed_316 : decode cL_packed 316 = .ok (.iload 8, 2) := by decide +kernel
theorem dL_packed_318 : decode cL_packed 318 = .ok (.bipush 10, 2) := by decide +kernel
theorem dL_packed_320 : decode cL_packed 320 = .ok (.irem, 1) := by decide +kernel
theorem dL_packed_321 : decode cL_packed 321 = .ok (.iconst 1, 1) := by decide +kernel
theorem dL_packed_322 : decode cL_packed 322 = .ok (.if_icmp .ne 7, 3) := by decide +kernel
theorem dL_packed_325 : decode cL_packed 325 = .ok (.iconst 1, 1) := by decide +kernel
theorem dL_packed_326 : decode cL_packed 326 = .ok (.goto 4, 3) := by decide +kernel
theorem dL_packed_329 : decode cL_packed 329 = .ok (.iconst 0, 1) := by decide +kernel
theorem dL_packed_330 : decode cL_packed 330 = .ok (.invokevirtual 83, 3) := by decide +kernel
theorem dL_packed_333 : decode cL_packed 333 = .ok (.ifCond .ge 5, 3) := by decide +kernel
theorem dL_packed_336 : decode cL_packed 336 = .ok (.iconst 0, 1) := by decide +kernel
theorem dL_packed_337 : decode cL_packed 337 = .ok (.ireturn, 1) := by decide +kernel
theorem dL_packed_338 : decode cL_packed 338 = .ok (.iinc 5 1, 3) := by decide +kernel
theorem dL_packed_341 : decode cL_packed 341 = .ok (.goto (-234), 3) := by decide +kernel
theorem dL_packed_344 : decode cL_packed 344 = .ok (.aload_n 0, 1) := by decide +kernel
theorem dL_packed_345 : decode cL_packed 345 = .ok (.iconst 0, 1) := by decide +kernel
theorem dL_packed_346 : decode cL_packed 346 = .ok (.iconst 0, 1) := by decide +kernel
theorem dL_packed_347 : decode cL_packed 347 = .ok (.invokevirtual 88, 3) := by decide +kernel
theorem dL_packed_350 : decode cL_packed 350 = .ok (.iload 4, 2) := by decide +kernel
theorem dL_packed_352 : decode cL_packed 352 = .ok (.if_icmp .ne 62, 3) := by decide +kernel
theorem dL_packed_355 : decode cL_packed 355 = .ok (.aload_n 0, 1) := by decide +kernel
theorem dL_packed_356 : decode cL_packed 356 = .ok (.iconst 0, 1) := by decide +kernel
theorem dL_packed_357 : decode cL_packed 357 = .ok (.iconst 1, 1) := by decide +kernel
theorem dL_packed_358 : decode cL_packed 358 = .ok (.invokevirtual 88, 3) := by decide +kernel
theorem dL_packed_361 : decode cL_packed 361 = .ok (.aload_n 2, 1) := by decide +kernel
theorem dL_packed_362 : decode cL_packed 362 = .ok (.bipush 9, 2) := by decide +kernel
theorem dL_packed_364 : decode cL_packed 364 = .ok (.invokevirtual 37, 3) := by decide +kernel
theorem dL_packed_367 : decode cL_packed 367 = .ok (.if_icmp .ne 47, 3) := by decide +kernel
theorem dL_packed_370 : decode cL_packed 370 = .ok (.aload_n 0, 1) := by decide +kernel
theorem dL_packed_371 : decode cL_packed 371 = .ok (.iconst 0, 1) := by decide +kernel
theorem dL_packed_372 : decode cL_packed 372 = .ok (.iconst 2, 1) := by decide +kernel
theorem dL_packed_373 : decode cL_packed 373 = .ok (.invokevirtual 88, 3) := by decide +kernel
theorem dL_packed_376 : decode cL_packed 376 = .ok (.aload_n 2, 1) := by decide +kernel
theorem dL_packed_377 : decode cL_packed 377 = .ok (.bipush 7, 2) := by decide +kernel
theorem dL_packed_379 : decode cL_packed 379 = .ok (.invokevirtual 37, 3) := by decide +kernel
theorem dL_packed_382 : decode cL_packed 382 = .ok (.if_icmp .ne 32, 3) := by decide +kernel
theorem dL_packed_385 : decode cL_packed 385 = .ok (.aload_n 0, 1) := by decide +kernel
theorem dL_packed_386 : decode cL_packed 386 = .ok (.iconst 0, 1) := by decide +kernel
theorem dL_packed_387 : decode cL_packed 387 = .ok (.iconst 3, 1) := by decide +kernel
theorem dL_packed_388 : decode cL_packed 388 = .ok (.invokevirtual 88, 3) := by decide +kernel
theorem dL_packed_391 : decode cL_packed 391 = .ok (.aload_n 2, 1) := by decide +kernel
theorem dL_packed_392 : decode cL_packed 392 = .ok (.bipush 8, 2) := by decide +kernel
theorem dL_packed_394 : decode cL_packed 394 = .ok (.invokevirtual 37, 3) := by decide +kernel
theorem dL_packed_397 : decode cL_packed 397 = .ok (.if_icmp .ne 17, 3) := by decide +kernel
theorem dL_packed_400 : decode cL_packed 400 = .ok (.aload_n 0, 1) := by decide +kernel
theorem dL_packed_401 : decode cL_packed 401 = .ok (.iconst 0, 1) := by decide +kernel
theorem dL_packed_402 : decode cL_packed 402 = .ok (.bipush 10, 2) := by decide +kernel
theorem dL_packed_404 : decode cL_packed 404 = .ok (.iload_n 1, 1) := by decide +kernel
theorem dL_packed_405 : decode cL_packed 405 = .ok (.iadd, 1) := by decide +kernel
theorem dL_packed_406 : decode cL_packed 406 = .ok (.invokevirtual 88, 3) := by decide +kernel
theorem dL_packed_409 : decode cL_packed 409 = .ok (.bipush (-9), 2) := by decide +kernel
theorem dL_packed_411 : decode cL_packed 411 = .ok (.if_icmp .eq 5, 3) := by decide +kernel
theorem dL_packed_414 : decode cL_packed 414 = .ok (.iconst 0, 1) := by decide +kernel
theorem dL_packed_415 : decode cL_packed 415 = .ok (.ireturn, 1) := by decide +kernel
theorem dL_packed_416 : decode cL_packed 416 = .ok (.aload_n 0, 1) := by decide +kernel
theorem dL_packed_417 : decode cL_packed 417 = .ok (.invokevirtual 92, 3) := by decide +kernel
theorem dL_packed_420 : decode cL_packed 420 = .ok (.iload 4, 2) := by decide +kernel
theorem dL_packed_422 : decode cL_packed 422 = .ok (.if_icmp .eq 5, 3) := by decide +kernel
theorem dL_packed_425 : decode cL_packed 425 = .ok (.iconst 0, 1) := by decide +kernel
theorem dL_packed_426 : decode cL_packed 426 = .ok (.ireturn, 1) := by decide +kernel
theorem dL_packed_427 : decode cL_packed 427 = .ok (.iconst 0, 1) := by decide +kernel
theorem dL_packed_428 : decode cL_packed 428 = .ok (.istore 5, 2) := by decide +kernel
theorem dL_packed_430 : decode cL_packed 430 = .ok (.iload 5, 2) := by decide +kernel
theorem dL_packed_432 : decode cL_packed 432 = .ok (.iload_n 1, 1) := by decide +kernel
theorem dL_packed_433 : decode cL_packed 433 = .ok (.if_icmp .ge 46, 3) := by decide +kernel
theorem dL_packed_436 : decode cL_packed 436 = .ok (.iconst 5, 1) := by decide +kernel
theorem dL_packed_437 : decode cL_packed 437 = .ok (.istore 6, 2) := by decide +kernel
theorem dL_packed_439 : decode cL_packed 439 = .ok (.iload 6, 2) := by decide +kernel
theorem dL_packed_441 : decode cL_packed 441 = .ok (.bipush 11, 2) := by decide +kernel
theorem dL_packed_443 : decode cL_packed 443 = .ok (.if_icmp .ge 30, 3) := by decide +kernel
theorem dL_packed_446 : decode cL_packed 446 = .ok (.aload_n 0, 1) := by decide +kernel
theorem dL_packed_447 : decode cL_packed 447 = .ok (.iload 5, 2) := by decide +kernel
theorem dL_packed_449 : decode cL_packed 449 = .ok (.iload 6, 2) := by decide +kernel
theorem dL_packed_451 : decode cL_packed 451 = .ok (.invokevirtual 40, 3) := by decide +kernel
theorem dL_packed_454 : decode cL_packed 454 = .ok (.aload_n 2, 1) := by decide +kernel
theorem dL_packed_455 : decode cL_packed 455 = .ok (.iload 5, 2) := by decide +kernel
theorem dL_packed_457 : decode cL_packed 457 = .ok (.iload 6, 2) := by decide +kernel
theorem dL_packed_459 : decode cL_packed 459 = .ok (.invokevirtual 40, 3) := by decide +kernel
theorem dL_packed_462 : decode cL_packed 462 = .ok (.if_icmp .eq 5, 3) := by decide +kernel
theorem dL_packed_465 : decode cL_packed 465 = .ok (.iconst 0, 1) := by decide +kernel
theorem dL_packed_466 : decode cL_packed 466 = .ok (.ireturn, 1) := by decide +kernel
theorem dL_packed_467 : decode cL_packed 467 = .ok (.iinc 6 1, 3) := by decide +kernel
theorem dL_packed_470 : decode cL_packed 470 = .ok (.goto (-31), 3) := by decide +kernel
theorem dL_packed_473 : decode cL_packed 473 = .ok (.iinc 5 1, 3) := by decide +kernel
theorem dL_packed_476 : decode cL_packed 476 = .ok (.goto (-46), 3) := by decide +kernel
theorem dL_packed_479 : decode cL_packed 479 = .ok (.iconst 1, 1) := by decide +kernel
theorem dL_packed_480 : decode cL_packed 480 = .ok (.ireturn, 1) := by decide +kernel
theorem dL_law_0 : decode cL_law 0 = .ok (.new 21, 3) := by decide +kernel
theorem dL_law_3 : decode cL_law 3 = .ok (.dup, 1) := by decide +kernel
theorem dL_law_4 : decode cL_law 4 = .ok (.invokespecial 87, 3) := by decide +kernel
theorem dL_law_7 : decode cL_law 7 = .ok (.astore_n 1, 1) := by decide +kernel
theorem dL_law_8 : decode cL_law 8 = .ok (.iconst 1, 1) := by decide +kernel
theorem dL_law_9 : decode cL_law 9 = .ok (.aload_n 0, 1) := by decide +kernel
theorem dL_law_10 : decode cL_law 10 = .ok (.iconst 0, 1) := by decide +kernel
theorem dL_law_11 : decode cL_law 11 = .ok (.invokestatic 10, 3) := by decide +kernel
theorem dL_law_14 : decode cL_law 14 = .ok (.bipush 7, 2) := by decide +kernel
theorem dL_law_16 : decode cL_law 16 = .ok (.invokestatic 16, 3) := by decide +kernel
theorem dL_law_19 : decode cL_law 19 = .ok (.iadd, 1) := by decide +kernel
theorem dL_law_20 : decode cL_law 20 = .ok (.istore_n 2, 1) := by decide +kernel
theorem dL_law_21 : decode cL_law 21 = .ok (.aload_n 1, 1) := by decide +kernel
theorem dL_law_22 : decode cL_law 22 = .ok (.aload_n 0, 1) := by decide +kernel
theorem dL_law_23 : decode cL_law 23 = .ok (.iconst 1, 1) := by decide +kernel
theorem dL_law_24 : decode cL_law 24 = .ok (.iload_n 2, 1) := by decide +kernel
theorem dL_law_25 : decode cL_law 25 = .ok (.invokestatic 96, 3) := by decide +kernel
theorem dL_law_28 : decode cL_law 28 = .ok (.ifCond .ne 5, 3) := by decide +kernel
theorem dL_law_31 : decode cL_law 31 = .ok (.iconst 0, 1) := by decide +kernel
theorem dL_law_32 : decode cL_law 32 = .ok (.ireturn, 1) := by decide +kernel
theorem dL_law_33 : decode cL_law 33 = .ok (.iconst 0, 1) := by decide +kernel
theorem dL_law_34 : decode cL_law 34 = .ok (.istore_n 3, 1) := by decide +kernel
theorem dL_law_35 : decode cL_law 35 = .ok (.iload_n 3, 1) := by decide +kernel
theorem dL_law_36 : decode cL_law 36 = .ok (.bipush 12, 2) := by decide +kernel
theorem dL_law_38 : decode cL_law 38 = .ok (.if_icmp .ge 53, 3) := by decide +kernel
theorem dL_law_41 : decode cL_law 41 = .ok (.aload_n 0, 1) := by decide +kernel
theorem dL_law_42 : decode cL_law 42 = .ok (.bipush 9, 2) := by decide +kernel
theorem dL_law_44 : decode cL_law 44 = .ok (.iload_n 3, 1) := by decide +kernel
theorem dL_law_45 : decode cL_law 45 = .ok (.iadd, 1) := by decide +kernel
theorem dL_law_46 : decode cL_law 46 = .ok (.invokestatic 10, 3) := by decide +kernel
theorem dL_law_49 : decode cL_law 49 = .ok (.istore 4, 2) := by decide +kernel
theorem dL_law_51 : decode cL_law 51 = .ok (.aload_n 1, 1) := by decide +kernel
theorem dL_law_52 : decode cL_law 52 = .ok (.iload 4, 2) := by decide +kernel
theorem dL_law_54 : decode cL_law 54 = .ok (.invokestatic 100, 3) := by decide +kernel
theorem dL_law_57 : decode cL_law 57 = .ok (.ifCond .eq 26, 3) := by decide +kernel
theorem dL_law_60 : decode cL_law 60 = .ok (.aload_n 1, 1) := by decide +kernel
theorem dL_law_61 : decode cL_law 61 = .ok (.invokestatic 104, 3) := by decide +kernel
theorem dL_law_64 : decode cL_law 64 = .ok (.ifCond .eq 19, 3) := by decide +kernel
theorem dL_law_67 : decode cL_law 67 = .ok (.aload_n 1, 1) := by decide +kernel
theorem dL_law_68 : decode cL_law 68 = .ok (.iload 4, 2) := by decide +kernel
theorem dL_law_70 : decode cL_law 70 = .ok (.bipush 15, 2) := by decide +kernel
theorem dL_law_72 : decode cL_law 72 = .ok (.ishr, 1) := by decide +kernel
theorem dL_law_73 : decode cL_law 73 = .ok (.iload_n 2, 1) := by decide +kernel
theorem dL_law_74 : decode cL_law 74 = .ok (.invokestatic 16, 3) := by decide +kernel
theorem dL_law_77 : decode cL_law 77 = .ok (.invokestatic 108, 3) := by decide +kernel
theorem dL_law_80 : decode cL_law 80 = .ok (.ifCond .ne 5, 3) := by decide +kernel
theorem dL_law_83 : decode cL_law 83 = .ok (.iconst 0, 1) := by decide +kernel
theorem dL_law_84 : decode cL_law 84 = .ok (.ireturn, 1) := by decide +kernel
theorem dL_law_85 : decode cL_law 85 = .ok (.iinc 3 1, 3) := by decide +kernel
theorem dL_law_88 : decode cL_law 88 = .ok (.goto (-53), 3) := by decide +kernel
theorem dL_law_91 : decode cL_law 91 = .ok (.aload_n 1, 1) := by decide +kernel
theorem dL_law_92 : decode cL_law 92 = .ok (.invokestatic 111, 3) := by decide +kernel
theorem dL_law_95 : decode cL_law 95 = .ok (.ifCond .eq 28, 3) := by decide +kernel
theorem dL_law_98 : decode cL_law 98 = .ok (.aload_n 1, 1) := by decide +kernel
theorem dL_law_99 : decode cL_law 99 = .ok (.invokestatic 104, 3) := by decide +kernel
theorem dL_law_102 : decode cL_law 102 = .ok (.ifCond .eq 21, 3) := by decide +kernel
theorem dL_law_105 : decode cL_law 105 = .ok (.aload_n 1, 1) := by decide +kernel
theorem dL_law_106 : decode cL_law 106 = .ok (.invokevirtual 114, 3) := by decide +kernel
theorem dL_law_109 : decode cL_law 109 = .ok (.ifCond .lt 14, 3) := by decide +kernel
theorem dL_law_112 : decode cL_law 112 = .ok (.aload_n 1, 1) := by decide +kernel
theorem dL_law_113 : decode cL_law 113 = .ok (.invokestatic 104, 3) := by decide +kernel
theorem dL_law_116 : decode cL_law 116 = .ok (.ifCond .eq 7, 3) := by decide +kernel
theorem dL_law_119 : decode cL_law 119 = .ok (.iconst 1, 1) := by decide +kernel
theorem dL_law_120 : decode cL_law 120 = .ok (.goto 4, 3) := by decide +kernel
theorem dL_law_123 : decode cL_law 123 = .ok (.iconst 0, 1) := by decide +kernel
theorem dL_law_124 : decode cL_law 124 = .ok (.ireturn, 1) := by decide +kernel
